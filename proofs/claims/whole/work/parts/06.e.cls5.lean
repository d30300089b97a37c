-- THE CLASS: sayings
theorem pC_isHeld {a : AS} {σ : St} (h : RepC a σ) (hI : Inv a) {k : Nat} (hk : k < scn a) {Φ : Int32 → St → Prop} (kk : Φ (b01 (sst a k = 0)) σ) : wpX6_isHeld (nI k) σ Φ := by
  unfold wpX6_isHeld
  have hsc := hI.1.2.2.2.2.2.2.1
  have s := hI.2.1.2.2.2.2.2.2.2.1 k hk
  have hcl : cLen 48 = 30 := by decide
  rw [h.2.2.2.2.1.1]
  refine ⟨fun z => absurd z (nI_pos (by omega)), fun _ => pk_le (scn a) k (fun z => absurd z (by omega)) (fun _ => pC_at (by rw [hcl]; omega) ?_)⟩
  rw [h.2.2.2.2.1.2.2.2.1 k hk]
  refine pk_eq (sst a k) 0 (fun z => ?_) (fun z => ?_)
  · rw [b01_t z] at kk
    exact kk
  · rw [b01_f z] at kk
    exact kk
theorem pC_isHeldBehind {a : AS} {σ : St} (h : RepC a σ) (hI : Inv a) {k c v : Nat} (hk : k < scn a) (hc : c < 2 ^ 31) (hv : v < 2 ^ 31) {Φ : Int32 → St → Prop} (kk : Φ (b01 (sst a k = 0 ∧ sck a k = c ∧ v < spg a k)) σ) : wpX6_isHeldBehind (nI k) (nI c) (nI v) σ Φ := by
  unfold wpX6_isHeldBehind
  have hsc := hI.1.2.2.2.2.2.2.1
  have hn := hI.1.1
  have s := hI.2.1.2.2.2.2.2.2.2.1 k hk
  have hcl : cLen 46 = 30 ∧ cLen 47 = 30 := by decide
  refine pC_isHeld h hI hk (brB (fun z => ?_) (fun z => pC_at (by rw [hcl.1]; omega) ?_))
  · rw [b01_f (fun y => z y.1)] at kk
    exact kk
  · rw [h.2.2.2.2.1.2.1 k hk]
    refine pk_eq (sck a k) c (fun z2 => pC_at (by rw [hcl.2]; omega) ?_) (fun z2 => ?_)
    · rw [h.2.2.2.2.1.2.2.1 k hk]
      refine pk_le (spg a k) v (fun z3 => ?_) (fun z3 => ?_)
      · rw [b01_f (fun y => by have := y.2.2; omega)] at kk
        exact kk
      · rw [b01_t ⟨z, z2, z3⟩] at kk
        exact kk
    · rw [b01_f (fun y => z2 y.2.1)] at kk
      exact kk
theorem lC_countHeld {a : AS} {σ : St} (h : RepC a σ) (hI : Inv a) {Φ : Int32 → St → Prop} (kk : Φ (nI (heldN a (scn a))) σ) :
    ∀ (N i : Nat), i ≤ scn a → scn a - i < N → wlX6_countHeld_4 Φ N (nI (heldN a i)) (nI i) σ := by
  have hsc := hI.1.2.2.2.2.2.2.1
  intro N
  induction N with
  | zero => intro i h1 h2; omega
  | succ N ih =>
    intro i hi hN
    show wlX6_countHeld_4_body Φ (wlX6_countHeld_4 Φ N) (nI (heldN a i)) (nI i) σ
    unfold wlX6_countHeld_4_body wbX6_countHeld_23
    rw [h.2.2.2.2.1.1]
    refine pk_le (scn a) i (fun q => ?_) (fun q => ?_)
    · have e : i = scn a := by omega
      subst e
      exact kk
    · have es : heldN a (i + 1) = heldN a i + (if sst a i = 0 then 1 else 0) := rfl
      have := ih (i + 1) (by omega) (by omega)
      refine pC_isHeld h hI q (brB (fun z y1 e1 => ?_) (fun z y5 e5 y1 e1 => ?_))
      · rw [e1, nI_1]
        rw [es, if_neg z] at this
        exact this
      · rw [e5, e1, nI_1, nI_1]
        rw [es, if_pos z] at this
        exact this
theorem pC_countHeld {a : AS} {σ : St} (h : RepC a σ) (hI : Inv a) {Φ : Int32 → St → Prop} (kk : Φ (nI (heldN a (scn a))) σ) : wpX6_countHeld σ Φ := by
  unfold wpX6_countHeld
  exact ⟨scn a + 1, lC_countHeld h hI kk (scn a + 1) 0 (Nat.zero_le _) (by omega)⟩
theorem lC_countHeldBy {a : AS} {σ : St} (h : RepC a σ) (hI : Inv a) {c : Nat} (hc : c < 2 ^ 31) {Φ : Int32 → St → Prop} (kk : Φ (nI (heldBy a c (scn a))) σ) :
    ∀ (N i : Nat), i ≤ scn a → scn a - i < N → wlX6_countHeldBy_4 Φ N (nI c) (nI (heldBy a c i)) (nI i) σ := by
  have hsc := hI.1.2.2.2.2.2.2.1
  have hn := hI.1.1
  intro N
  induction N with
  | zero => intro i h1 h2; omega
  | succ N ih =>
    intro i hi hN
    show wlX6_countHeldBy_4_body Φ (wlX6_countHeldBy_4 Φ N) (nI c) (nI (heldBy a c i)) (nI i) σ
    unfold wlX6_countHeldBy_4_body wbX6_countHeldBy_35
    rw [h.2.2.2.2.1.1]
    refine pk_le (scn a) i (fun q => ?_) (fun q => ?_)
    · have e : i = scn a := by omega
      subst e
      exact kk
    · have es : heldBy a c (i + 1) = heldBy a c i + (if sck a i = c ∧ sst a i = 0 then 1 else 0) := rfl
      have s := hI.2.1.2.2.2.2.2.2.2.1 i q
      have hcl : cLen 46 = 30 := by decide
      have := ih (i + 1) (by omega) (by omega)
      refine pC_isHeld h hI q (brB (fun z y1 e1 => ?_) (fun z => pC_at (by rw [hcl]; omega) ?_))
      · rw [e1, nI_1]
        rw [es, if_neg (fun y => z y.2)] at this
        exact this
      · rw [h.2.2.2.2.1.2.1 i q]
        refine pk_eq (sck a i) c (fun z2 y8 e8 y1 e1 => ?_) (fun z2 y1 e1 => ?_)
        · rw [e8, e1, nI_1, nI_1]
          rw [es, if_pos ⟨z2, z⟩] at this
          exact this
        · rw [e1, nI_1]
          rw [es, if_neg (fun y => z2 y.1)] at this
          exact this
theorem pC_countHeldBy {a : AS} {σ : St} (h : RepC a σ) (hI : Inv a) {c : Nat} (hc : c < 2 ^ 31) {Φ : Int32 → St → Prop} (kk : Φ (nI (heldBy a c (scn a))) σ) : wpX6_countHeldBy (nI c) σ Φ := by
  unfold wpX6_countHeldBy
  exact ⟨scn a + 1, lC_countHeldBy h hI hc kk (scn a + 1) 0 (Nat.zero_le _) (by omega)⟩
/-- only sayings have changed -/
theorem repC_say {a b : AS} {σ t : St} (h : RepC a σ) (F : ∀ j, j ≠ 96 → j ≠ 97 → t.1 j = σ.1 j) (R : ∀ j, (j < 46 ∨ 49 < j) → t.2 j = σ.2 j) (hb : ∀ u, (u ≤ 15 ∨ 22 ≤ u) → b u = a u) (d5 : C5 b t) : RepC b t :=
  repC_oth h (fun j hj => F j (by omega) (by omega)) (fun j h1 h2 h3 h4 => R j (by omega)) (fun u hu => hb u (by omega))
    (C4_fr h.2.2.2.1 (F _ (by decide) (by decide)) (fun j hj => R j (by omega)) (fun u h1 h2 => hb u (by omega))) d5
    (C6_fr h.2.2.2.2.2.1 (fun j hj => F j (by omega) (by omega)) (fun u h1 h2 => hb u (by omega)))
    (C7_fr h.2.2.2.2.2.2.1 (F _ (by decide) (by decide)) (R 52 (by decide)) (fun u h1 h2 => hb u (by omega)))
    (C8_fr h.2.2.2.2.2.2.2 (F _ (by decide) (by decide)) (fun j h1 h2 => R j (by omega)) (fun u h1 h2 => hb u (by omega)))
theorem pC_say {a : AS} {σ : St} (hI : Inv a) (h : RepC a σ) {c : Nat} (hc : c < nA a) {Φ : Int32 → St → Prop} (kk : ∀ b r t, SayR c a b r → RepC b t → Φ r t) : wpX2_addSaying (nI c) σ Φ := by
  unfold wpX2_addSaying wpX6_add
  have hn := hI.1.1
  have hc5 : c < 5 := by omega
  have hsc := hI.1.2.2.2.2.2.2.1
  obtain ⟨⟨g0, g1, g2, g3, g4⟩, e2, e3, e4, ⟨s0, s1, s2, s3, s4, s5⟩, hrest⟩ := id h
  have hcl : cLen 46 = 30 ∧ cLen 47 = 30 ∧ cLen 48 = 30 := by decide
  rw [s0]
  refine pk_lt (scn a) 30 (fun q => pC_clerk hc5 ?_) (fun q => kk _ _ σ (Or.inl ⟨by omega, rfl, rfl⟩) h)
  rw [s0, g2 c hc5]
  refine pC_put (by rw [hcl.1]; exact q) ?_
  rw [show (w2 σ 46 (scn a) (nI c)).1 96 = nI (scn a) from s0]
  refine pC_put (by rw [hcl.2.1]; exact q) ?_
  rw [show (w2 (w2 σ 46 (scn a) (nI c)) 47 (scn a) (nI (now a c))).1 96 = nI (scn a) from s0, show (0 : Int32) = nI 0 from rfl]
  refine pC_put (by rw [hcl.2.2]; exact q) (fun t4 e4' => ?_)
  rw [show (w2 (w2 (w2 σ 46 (scn a) (nI c)) 47 (scn a) (nI (now a c))) 48 (scn a) (nI 0)).1 96 = nI (scn a) from s0, nI_1] at e4'
  have hR : RepC (saysA a c) t4 := by
    refine repC_say h (fun j h1 h2 => ?_) (fun j hj => ?_) (fun u hu => ?_) ⟨?_, fun k hk => ?_, fun k hk => ?_, fun k hk => ?_, ?_, fun k hk => ?_⟩
    · rw [e4', setI_1, if_neg h1]
      rfl
    · rw [e4', setI_2, w2_ne _ _ _ (by omega), w2_ne _ _ _ (by omega), w2_ne _ _ _ (by omega)]
    · unfold saysA
      rw [sT_ne (by omega), sT_ne (by omega), sT_ne (by omega), sT_ne (by omega)]
    · rw [e4']
      rfl
    · have hk : k < scn a + 1 := hk
      show _ = nI (if k = scn a then c else a 17 k 0 0)
      rw [e4', setI_2, w2_ne _ _ _ (by decide), w2_ne _ _ _ (by decide), w2_at]
      by_cases e : k = scn a
      · rw [if_pos e, if_pos e]
      · rw [if_neg e, if_neg e]
        exact s1 k (by omega)
    · have hk : k < scn a + 1 := hk
      show _ = nI (if k = scn a then now a c else a 18 k 0 0)
      rw [e4', setI_2, w2_ne _ _ _ (by decide), w2_at]
      by_cases e : k = scn a
      · rw [if_pos e, if_pos e]
      · rw [if_neg e, if_neg e, w2_ne _ _ _ (by decide)]
        exact s2 k (by omega)
    · have hk : k < scn a + 1 := hk
      show _ = nI (if k = scn a then 0 else a 19 k 0 0)
      rw [e4', setI_2, w2_at]
      by_cases e : k = scn a
      · rw [if_pos e, if_pos e]
      · rw [if_neg e, if_neg e, w2_ne _ _ _ (by decide), w2_ne _ _ _ (by decide)]
        exact s3 k (by omega)
    · rw [e4', setI_1, if_neg (by decide)]
      exact s4
    · rw [e4', setI_2, w2_ne _ _ _ (by decide), w2_ne _ _ _ (by decide), w2_ne _ _ _ (by decide)]
      exact s5 k hk
  exact pC_countHeld hR (inv_says hI hc q) (kk _ _ t4 (Or.inr ⟨q, rfl, rfl⟩) hR)
theorem pC_isSafe {a : AS} {σ : St} (hI : Inv a) (h : RepC a σ) {k : Nat} (hk : k < scn a) {Φ : Int32 → St → Prop} (kk : Φ (b01 (safe a k)) σ) : wpX2_isSafe (nI k) σ Φ := by
  unfold wpX2_isSafe
  have hn := hI.1.1
  have hsc := hI.1.2.2.2.2.2.2.1
  have s := hI.2.1.2.2.2.2.2.2.2.1 k hk
  have hcl : cLen 46 = 30 ∧ cLen 47 = 30 := by decide
  refine pC_isHeld h hI hk (brB (fun z => ?_) (fun z => pC_at (by rw [hcl.1]; omega) (pC_at (by rw [hcl.2]; omega) ?_)))
  · rw [b01_f (fun y => z y.1)] at kk
    exact kk
  · rw [h.2.2.2.2.1.2.1 k hk, h.2.2.2.2.1.2.2.1 k hk]
    refine pC_isWritten h hI (by omega) (hI.2.2.2.2.2.2.2.2.1 k hk z) (brB (fun y => ?_) (fun y => ?_))
    · rw [b01_f (fun w => y w.2)] at kk
      exact kk
    · rw [b01_t ⟨z, y⟩] at kk
      exact kk
theorem pC_goesAhead {a : AS} {σ : St} (hI : Inv a) (h : RepC a σ) {k j : Nat} (hk : k < scn a) (hj : j < scn a) {Φ : Int32 → St → Prop} (kk : Φ (b01 (key a k < key a j)) σ) : wpX6_goesAhead (nI k) (nI j) σ Φ := by
  unfold wpX6_goesAhead
  have hn := hI.1.1
  have hsc := hI.1.2.2.2.2.2.2.1
  have s := hI.2.1.2.2.2.2.2.2.2.1 k hk
  have s' := hI.2.1.2.2.2.2.2.2.2.1 j hj
  have hcl : cLen 46 = 30 ∧ cLen 47 = 30 := by decide
  unfold key at kk
  refine pC_at (by rw [hcl.2]; omega) (pC_at (by rw [hcl.2]; omega) ?_)
  rw [h.2.2.2.2.1.2.2.1 k hk, h.2.2.2.2.1.2.2.1 j hj]
  refine pk_eq (spg a k) (spg a j) (fun z => pC_at (by rw [hcl.1]; omega) (pC_at (by rw [hcl.1]; omega) ?_)) (fun z => pC_at (by rw [hcl.2]; omega) (pC_at (by rw [hcl.2]; omega) ?_))
  · rw [h.2.2.2.2.1.2.1 k hk, h.2.2.2.2.1.2.1 j hj]
    refine pk_le (sck a j) (sck a k) (fun y => ?_) (fun y => ?_)
    · rw [b01_f (by omega)] at kk
      exact kk
    · rw [b01_t (by omega)] at kk
      exact kk
  · rw [h.2.2.2.2.1.2.2.1 k hk, h.2.2.2.2.1.2.2.1 j hj]
    refine pk_le (spg a j) (spg a k) (fun y => ?_) (fun y => ?_)
    · rw [b01_f (by omega)] at kk
      exact kk
    · rw [b01_t (by omega)] at kk
      exact kk
theorem lC_nextSafe {a : AS} {σ : St} (hI : Inv a) (h : RepC a σ) {Φ : Int32 → St → Prop} (k1 : (∀ j, j < scn a → ¬ safe a j) → Φ (-1) σ) (k2 : ∀ k, isFst a (scn a) k → Φ (nI k) σ) :
    ∀ (N b : Nat) (x : Int32), b ≤ scn a → scn a - b < N → ((x = -1 ∧ ∀ j, j < b → ¬ safe a j) ∨ ∃ k, isFst a b k ∧ x = nI k) → wlX2_nextSafe_4 Φ N x (nI b) σ := by
  have hsc := hI.1.2.2.2.2.2.2.1
  intro N
  induction N with
  | zero => intro b x h1 h2; omega
  | succ N ih =>
    intro b x hbb hN hx
    show wlX2_nextSafe_4_body Φ (wlX2_nextSafe_4 Φ N) x (nI b) σ
    unfold wlX2_nextSafe_4_body wbX2_nextSafe_40 wbX2_nextSafe_42
    rw [h.2.2.2.2.1.1]
    refine pk_le (scn a) b (fun h1 => ?_) (fun h1 => ?_)
    · have e : b = scn a := by omega
      subst e
      rcases hx with ⟨rfl, hx⟩ | ⟨k, hk, rfl⟩
      · exact k1 hx
      · exact k2 k hk
    · refine pC_isSafe hI h h1 (brB (fun q y1 ey1 => ?_) (fun q => ?_))
      · rw [ey1, nI_1]
        refine ih (b + 1) x (by omega) (by omega) ?_
        rcases hx with ⟨rfl, hx⟩ | ⟨k, hk, e1⟩
        · refine Or.inl ⟨rfl, fun j hj => ?_⟩
          by_cases e : j = b
          · rw [e]; exact q
          · exact hx j (by omega)
        · exact Or.inr ⟨k, fst_skip hk (Or.inl q), e1⟩
      · rcases hx with ⟨rfl, hx⟩ | ⟨k, hk, e1⟩
        · refine ⟨fun _ y1 ey1 => ?_, fun z => absurd rfl z⟩
          rw [ey1, nI_1]
          exact ih (b + 1) _ (by omega) (by omega) (Or.inr ⟨b, fst_first hx q, rfl⟩)
        · have hkl := hk.1
          rw [e1]
          refine ⟨fun z => ?_, fun _ => pC_goesAhead hI h h1 (by omega) (brB (fun z y1 ey1 => ?_) (fun z y1 ey1 => ?_))⟩
          · rw [neI1 (a := k) (by omega)] at z
            exact z.elim
          · rw [ey1, nI_1]
            exact ih (b + 1) _ (by omega) (by omega) (Or.inr ⟨k, fst_skip hk (Or.inr (by omega)), rfl⟩)
          · rw [ey1, nI_1]
            exact ih (b + 1) _ (by omega) (by omega) (Or.inr ⟨b, fst_new hk q z, rfl⟩)
theorem pC_nextSafe {a : AS} {σ : St} (hI : Inv a) (h : RepC a σ) {Φ : Int32 → St → Prop} (k1 : (∀ j, j < scn a → ¬ safe a j) → Φ (-1) σ) (k2 : ∀ k, isFst a (scn a) k → Φ (nI k) σ) : wpX2_nextSafe σ Φ := by
  unfold wpX2_nextSafe
  exact ⟨scn a + 1, lC_nextSafe hI h k1 k2 (scn a + 1) 0 _ (Nat.zero_le _) (by omega) (Or.inl ⟨rfl, fun j hj => absurd hj (Nat.not_lt_zero j)⟩)⟩
theorem pC_markReleased {a : AS} {σ : St} (h : RepC a σ) {k : Nat} (hk : k < scn a) (hsc : scn a ≤ 30) (hr : rcn a < 30) {Φ : St → Prop} (kk : ∀ t, RepC (relA a k) t → Φ t) : wpX6_markReleased (nI k) σ Φ := by
  unfold wpX6_markReleased
  obtain ⟨g1, e2, e3, e4, ⟨s0, s1, s2, s3, s4, s5⟩, hrest⟩ := id h
  have hcl : cLen 48 = 30 ∧ cLen 49 = 30 := by decide
  refine pC_put (by rw [hcl.1]; omega) ?_
  rw [show (w2 σ 48 k 1).1 97 = nI (rcn a) from s4]
  refine pC_put (by rw [hcl.2]; omega) (fun t3 e3' => ?_)
  rw [show (w2 (w2 σ 48 k 1) 49 (rcn a) (nI k)).1 97 = nI (rcn a) from s4, nI_1] at e3'
  refine kk t3 (repC_say h (fun j h1 h2 => ?_) (fun j hj => ?_) (fun u hu => ?_) ⟨?_, fun i hi => ?_, fun i hi => ?_, fun i hi => ?_, ?_, fun i hi => ?_⟩)
  · rw [e3', setI_1, if_neg h2]
    rfl
  · rw [e3', setI_2, w2_ne _ _ _ (by omega), w2_ne _ _ _ (by omega)]
  · unfold relA
    rw [sT_ne (by omega), sT_ne (by omega), sT_ne (by omega)]
  · rw [e3', setI_1, if_neg (by decide)]
    exact s0
  · rw [e3', setI_2, w2_ne _ _ _ (by decide), w2_ne _ _ _ (by decide)]
    exact s1 i hi
  · rw [e3', setI_2, w2_ne _ _ _ (by decide), w2_ne _ _ _ (by decide)]
    exact s2 i hi
  · show _ = nI (if i = k then 1 else a 19 i 0 0)
    rw [e3', setI_2, w2_ne _ _ _ (by decide), w2_at]
    by_cases e : i = k
    · rw [if_pos e, if_pos e]; rfl
    · rw [if_neg e, if_neg e]
      exact s3 i hi
  · rw [e3']
    rfl
  · have hi : i < rcn a + 1 := hi
    show _ = nI (if i = rcn a then k else a 21 i 0 0)
    rw [e3', setI_2, w2_at]
    by_cases e : i = rcn a
    · rw [if_pos e, if_pos e]
    · rw [if_neg e, if_neg e, w2_ne _ _ _ (by decide)]
      exact s5 i (by omega)
theorem lC_releases {a0 : AS} {Φ : Int32 → St → Prop} (kk : ∀ (r : Nat) (b : AS) (t : St), r ≤ 30 → Rls r a0 b → RepC b t → Φ (nI r) t) :
    ∀ (N c : Nat) (a : AS) (σ : St), Inv a → RepC a σ → heldN a (scn a) < N → c + heldN a (scn a) ≤ 30 → (∀ r b, Rls r a b → Rls (c + r) a0 b) → wlX2_releaseSafe_4 Φ N (nI c) (nI c) σ := by
  intro N
  induction N with
  | zero => intro c a σ h1 h2 h3; omega
  | succ N ih =>
    intro c a σ hI h hN hc hr
    have hsc := hI.1.2.2.2.2.2.2.1
    show wlX2_releaseSafe_4_body Φ (wlX2_releaseSafe_4 Φ N) (nI c) (nI c) σ
    unfold wlX2_releaseSafe_4_body
    refine pk_le 30 c (fun q => ?_) (fun q => ?_)
    · have hno : ∀ j, j < scn a → ¬ safe a j := by
        intro j hj hsj
        have := heldN_pos (a := a) (scn a) j hj hsj.1
        omega
      have := hr 0 a ⟨rfl, hno⟩
      exact kk c a σ (by omega) this h
    · refine pC_nextSafe hI h (fun hx => ⟨fun _ => ?_, fun z => absurd rfl z⟩) (fun k hk => ⟨fun z => ?_, fun _ => ?_⟩)
      · have := hr 0 a ⟨rfl, hx⟩
        exact kk c a σ (by omega) this h
      · rw [neI1 (a := k) (by have := hk.1; omega)] at z
        exact z.elim
      · have hI2 := inv_rel hI hk.1 hk.2.1.1
        have hr1 : rcn a + 1 ≤ scn a := hI2.1.2.2.2.2.2.2.2.1
        have hh := heldN_rel hk.2.1.1 (scn a)
        rw [if_pos hk.1] at hh
        have hs2 : heldN (relA a k) (scn (relA a k)) = heldN (relA a k) (scn a) := rfl
        refine pC_markReleased h hk.1 hsc (by omega) (fun t ht y6 e6 y7 e7 => ?_)
        rw [e6, e7, nI_1]
        refine ih (c + 1) (relA a k) t hI2 ht (by rw [hs2]; omega) (by rw [hs2]; omega) (fun r b q2 => ?_)
        have := hr (r + 1) b ⟨k, hk, q2⟩
        rw [show c + 1 + r = c + (r + 1) by omega]
        exact this
theorem pC_releases {a : AS} {σ : St} (hI : Inv a) (h : RepC a σ) {Φ : Int32 → St → Prop} (kk : ∀ (r : Nat) (b : AS) (t : St), r ≤ 30 → Rls r a b → RepC b t → Φ (nI r) t) : wpX2_releaseSafe σ Φ := by
  unfold wpX2_releaseSafe
  have hh := heldN_le a (scn a)
  have hsc := hI.1.2.2.2.2.2.2.1
  exact ⟨heldN a (scn a) + 1, lC_releases kk _ 0 a σ hI h (Nat.lt_succ_self _) (by omega) (fun r b q => by rw [Nat.zero_add]; exact q)⟩
