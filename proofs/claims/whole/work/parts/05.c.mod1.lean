theorem pM_isClerk {a : AS} {μ : St} (h : RepM a μ) (hb : Bd a) {x : Int32} {Φ : Int32 → St → Prop} (k : Φ (b01 (∃ c, c < nA a ∧ x = nI c)) μ) : wpX10_isClerk x μ Φ := by
  unfold wpX10_isClerk
  have hn := hb.1
  have e : μ.1 0 - (1 : Int32) = nI (nA a - 1) := by
    rw [h.1.1, nI_lit 1, subI (by omega)]
  refine pM_in (lo := 0) ?_
  rw [e]
  refine ⟨b01_n _, ?_⟩
  rw [b01_c (Q := ∃ c, c < nA a ∧ x = nI c)]
  · exact k
  · constructor
    · intro q
      obtain ⟨j, h1, h2, h3⟩ := inR (a := 0) (b := nA a - 1) rfl rfl (by omega) (by omega) q
      exact ⟨j, by omega, h3⟩
    · rintro ⟨c, h1, rfl⟩
      exact inR_of (a := 0) (by omega) (by omega) (by omega)
theorem pM_bad {a : AS} {μ : St} (h : RepM a μ) {Φ : Int32 → St → Prop} (k : ∀ μ', RepM (badA a) μ' → Φ (-2) μ') : wpX10_bad μ Φ := by
  unfold wpX10_bad
  refine ⟨pk_in 0 3 (by decide), pk_in 0 3 (by decide), fun t ht => ?_⟩
  obtain ⟨h1, h2, h3, h4, h5, ⟨g1, g2, g3, g4⟩, h7⟩ := h
  rw [nI_lit 0, rd_nI _ _ (by decide), wr_nI _ _ _ (by decide)] at ht
  subst ht
  refine k _ ⟨h1, h2, h3, h4, h5, ⟨g1, ?_, g3, g4⟩, h7⟩
  show (w2 μ 13 0 (μ.2 13 0 + 1)).2 13 0 = nI (bdn a + 1)
  rw [w2_at, if_pos rfl, g2, nI_1]
theorem pM_no {a : AS} {μ : St} (h : RepM a μ) {Φ : Int32 → St → Prop} (k : ∀ μ', RepM (noA a) μ' → Φ (-3) μ') : wpX10_no μ Φ := by
  unfold wpX10_no
  refine ⟨pk_in 1 3 (by decide), pk_in 1 3 (by decide), fun t ht => ?_⟩
  obtain ⟨h1, h2, h3, h4, h5, ⟨g1, g2, g3, g4⟩, h7⟩ := h
  rw [nI_lit 1, rd_nI _ _ (by decide), wr_nI _ _ _ (by decide)] at ht
  subst ht
  refine k _ ⟨h1, h2, h3, h4, h5, ⟨g1, g2, ?_, g4⟩, h7⟩
  show (w2 μ 13 1 (μ.2 13 1 + nI 1)).2 13 1 = nI (non a + 1)
  rw [w2_at, if_pos rfl, g3, addI]
theorem pM_full {a : AS} {μ : St} (h : RepM a μ) {Φ : Int32 → St → Prop} (k : ∀ μ', RepM (fullA a) μ' → Φ (-4) μ') : wpX10_full μ Φ := by
  unfold wpX10_full
  refine ⟨pk_in 2 3 (by decide), pk_in 2 3 (by decide), fun t ht => ?_⟩
  obtain ⟨h1, h2, h3, h4, h5, ⟨g1, g2, g3, g4⟩, h7⟩ := h
  rw [nI_lit 2, rd_nI _ _ (by decide), wr_nI _ _ _ (by decide)] at ht
  subst ht
  refine k _ ⟨h1, h2, h3, h4, h5, ⟨g1, g2, g3, ?_⟩, h7⟩
  show (w2 μ 13 2 (μ.2 13 2 + 1)).2 13 2 = nI (fln a + 1)
  rw [w2_at, if_pos rfl, g4, nI_1]
/-- what is told, counted if it is full -/
theorem pM_tells {a : AS} {μ : St} (h : RepM a μ) {x : Int32} {Φ : Int32 → St → Prop} (k1 : x = -4 → ∀ μ', RepM (fullA a) μ' → Φ x μ') (k2 : x ≠ -4 → ∀ μ', RepM a μ' → Φ x μ') : wpX10_tells x μ Φ := by
  unfold wpX10_tells wbX10_tells_18
  obtain ⟨h1, h2, h3, h4, h5, ⟨g1, g2, g3, g4⟩, h7⟩ := h
  refine ⟨pk_in 2 3 (by decide), fun e => ⟨pk_in 2 3 (by decide), fun t ht => ?_⟩, fun e => ⟨pk_in 2 3 (by decide), fun t ht => ?_⟩⟩
  · rw [nI_lit 2, rd_nI _ _ (by decide), wr_nI _ _ _ (by decide)] at ht
    subst ht
    refine k1 e _ ⟨h1, h2, h3, h4, h5, ⟨g1, g2, g3, ?_⟩, h7⟩
    show (w2 μ 13 2 (μ.2 13 2 + 1)).2 13 2 = nI (fln a + 1)
    rw [w2_at, if_pos rfl, g4, nI_1]
  · rw [nI_lit 2, rd_nI _ _ (by decide), wr_nI _ _ _ (by decide)] at ht
    subst ht
    refine k2 e _ ⟨h1, h2, h3, h4, h5, ⟨g1, g2, g3, ?_⟩, h7⟩
    show (w2 μ 13 2 (μ.2 13 2 + 0)).2 13 2 = nI (fln a)
    rw [w2_at, if_pos rfl, g4, nI_lit 0, addI, Nat.add_zero]
