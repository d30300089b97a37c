/-- the order in which safe ones are released -/
def key (a : AS) (k : Nat) : Nat := 5 * spg a k + sck a k
def isFst (a : AS) (b k : Nat) : Prop := k < b ∧ safe a k ∧ (∀ j, j < b → safe a j → key a k ≤ key a j) ∧ (∀ j, j < k → safe a j → key a k < key a j)
theorem isFst_uniq {a : AS} {b k j : Nat} (h1 : isFst a b k) (h2 : isFst a b j) : k = j := by
  rcases Nat.lt_trichotomy k j with q | q | q
  · have := h2.2.2.2 k q h1.2.1
    have := h1.2.2.1 j h2.1 h2.2.1
    omega
  · exact q
  · have := h1.2.2.2 j q h2.2.1
    have := h2.2.2.1 k h1.1 h1.2.1
    omega
theorem isFst_none {a : AS} {b : Nat} (h : ∀ j, j < b → ¬ safe a j) : ¬ ∃ k, isFst a b k := by
  rintro ⟨k, hk⟩
  exact h k hk.1 hk.2.1
theorem fst_skip {a : AS} {b k : Nat} (h : isFst a b k) (hn : ¬ safe a b ∨ key a k ≤ key a b) : isFst a (b + 1) k := by
  refine ⟨by have := h.1; omega, h.2.1, fun j hj hs => ?_, h.2.2.2⟩
  by_cases e : j = b
  · subst e
    rcases hn with q | q
    · exact absurd hs q
    · exact q
  · exact h.2.2.1 j (by omega) hs
theorem fst_new {a : AS} {b k : Nat} (h : isFst a b k) (hs : safe a b) (hk : key a b < key a k) : isFst a (b + 1) b := by
  refine ⟨Nat.lt_succ_self b, hs, fun j hj hs2 => ?_, fun j hj hs2 => ?_⟩
  · by_cases e : j = b
    · rw [e]
      exact Nat.le_refl _
    · have := h.2.2.1 j (by omega) hs2
      omega
  · have := h.2.2.1 j hj hs2
    omega
theorem fst_first {a : AS} {b : Nat} (h : ∀ j, j < b → ¬ safe a j) (hs : safe a b) : isFst a (b + 1) b := by
  refine ⟨Nat.lt_succ_self b, hs, fun j hj hs2 => ?_, fun j hj hs2 => absurd hs2 (h j hj)⟩
  by_cases e : j = b
  · rw [e]
    exact Nat.le_refl _
  · exact absurd hs2 (h j (by omega))
theorem lM_firstSafe {a : AS} {μ : St} (hI : Inv a) (h : RepM a μ) {Φ : Int32 → St → Prop} (k1 : (∀ j, j < scn a → ¬ safe a j) → Φ (-1) μ) (k2 : ∀ k, isFst a (scn a) k → Φ (nI k) μ) :
    ∀ (N b : Nat) (x y : Int32), b ≤ scn a → scn a - b < N → ((x = -1 ∧ ∀ j, j < b → ¬ safe a j) ∨ ∃ k, isFst a b k ∧ x = nI k ∧ y = nI (key a k)) → wlX10_firstSafe_6 Φ N x y (nI b) μ := by
  have hb := hI.1
  have hn := hb.1
  have hsc := hb.2.2.2.2.2.2.1
  intro N
  induction N with
  | zero =>
    intro b x y h1 h2
    omega
  | succ N ih =>
    intro b x y hbb hN hx
    show wlX10_firstSafe_6_body Φ (wlX10_firstSafe_6 Φ N) x y (nI b) μ
    unfold wlX10_firstSafe_6_body wbX10_firstSafe_56 wbX10_firstSafe_61
    rw [h.2.2.2.2.1.1, nI_lit 3, mulI, nI_lit 1, addI]
    refine pk_le (scn a) b (fun h1 => ?_) (fun h1 => ?_)
    · have e : b = scn a := by omega
      subst e
      rcases hx with ⟨rfl, hx⟩ | ⟨k, hk, rfl, -⟩
      · exact k1 hx
      · exact k2 k hk
    · have s9 := hI.2.1.2.2.2.2.2.2.2.1 b h1
      have kb : ∀ k, k < scn a → key a k ≤ 200 := fun k hk => by
        have := hI.2.1.2.2.2.2.2.2.2.1 k hk
        unfold key
        omega
      rw [rd_nI _ _ (by omega), rd_nI _ _ (by omega), h.2.2.2.2.1.2.1 b h1, h.2.2.2.2.1.2.2.1 b h1, nI_lit 5, mulI, addI]
      refine ⟨pk_in (3 * b + 1) 90 (by omega), pk_in (3 * b) 90 (by omega), fun y4 e4 => ?_⟩
      have e4 : y4 = nI (key a b) := e4
      refine pM_isSafe hI h h1 (brB (fun q y1 ey1 => ?_) (fun q => ?_))
      · rw [ey1, addI]
        refine ih (b + 1) x y (by omega) (by omega) ?_
        rcases hx with ⟨rfl, hx⟩ | ⟨k, hk, e1, e2⟩
        · refine Or.inl ⟨rfl, fun j hj => ?_⟩
          by_cases e : j = b
          · rw [e]
            exact q
          · exact hx j (by omega)
        · exact Or.inr ⟨k, fst_skip hk (Or.inl q), e1, e2⟩
      · rcases hx with ⟨rfl, hx⟩ | ⟨k, hk, e1, e2⟩
        · refine ⟨fun _ y1 ey1 => ?_, fun z => absurd rfl z⟩
          rw [ey1, addI]
          exact ih (b + 1) _ _ (by omega) (by omega) (Or.inr ⟨b, fst_first hx q, rfl, e4⟩)
        · have hkb := kb k (by have := hk.1; omega)
          have hbb2 := kb b h1
          rw [e1, e2, e4]
          refine ⟨fun z => ?_, fun _ => pk_le (key a k) (key a b) (fun z y1 ey1 => ?_) (fun z y1 ey1 => ?_)⟩
          · have z : nI k = -1 := z
            rw [neI1 (a := k) (by have := hk.1; omega)] at z
            exact z.elim
          · rw [ey1, addI]
            exact ih (b + 1) _ _ (by omega) (by omega) (Or.inr ⟨k, fst_skip hk (Or.inr z), rfl, rfl⟩)
          · rw [ey1, addI]
            exact ih (b + 1) _ _ (by omega) (by omega) (Or.inr ⟨b, fst_new hk q z, rfl, rfl⟩)
theorem pM_firstSafe {a : AS} {μ : St} (hI : Inv a) (h : RepM a μ) {Φ : Int32 → St → Prop} (k1 : (∀ j, j < scn a → ¬ safe a j) → Φ (-1) μ) (k2 : ∀ k, isFst a (scn a) k → Φ (nI k) μ) : wpX10_firstSafe μ Φ := by
  unfold wpX10_firstSafe
  exact ⟨scn a + 1, lM_firstSafe hI h k1 k2 (scn a + 1) 0 _ _ (Nat.zero_le _) (by omega) (Or.inl ⟨rfl, fun j hj => absurd hj (Nat.not_lt_zero j)⟩)⟩
/-- the releases, one after another: r of them have come, from a to b -/
def Rls : Nat → AS → AS → Prop
  | 0, a, b => a = b ∧ ∀ j, j < scn a → ¬ safe a j
  | r + 1, a, b => ∃ k, isFst a (scn a) k ∧ Rls r (relA a k) b
theorem rls_inv {b : AS} : ∀ (r : Nat) (a : AS), Inv a → Rls r a b → Inv b := by
  intro r
  induction r with
  | zero =>
    intro a h q
    rw [← q.1]
    exact h
  | succ r ih =>
    intro a h q
    obtain ⟨k, hk, q2⟩ := q
    exact ih _ (inv_rel h hk.1 hk.2.1.1) q2
theorem rls_uniq {b b' : AS} : ∀ (r r' : Nat) (a : AS), Rls r a b → Rls r' a b' → r = r' ∧ b = b' := by
  intro r
  induction r with
  | zero =>
    intro r' a h h'
    cases r' with
    | zero => exact ⟨rfl, h.1.symm.trans h'.1⟩
    | succ r' =>
      obtain ⟨k, hk, -⟩ := h'
      exact absurd hk.2.1 (h.2 k hk.1)
  | succ r ih =>
    intro r' a h h'
    obtain ⟨k, hk, q⟩ := h
    cases r' with
    | zero => exact absurd hk.2.1 (h'.2 k hk.1)
    | succ r' =>
      obtain ⟨k', hk', q'⟩ := h'
      rw [← isFst_uniq hk hk'] at q'
      obtain ⟨e1, e2⟩ := ih r' _ q q'
      exact ⟨by rw [e1], e2⟩
theorem relM {a : AS} {μ : St} (hb : Bd a) (h : RepM a μ) {k : Nat} (hk : k < scn a) (hr : rcn a < 30) {t3 t5 t6 : St} (e3 : t3 = w2 μ 11 (3 * k + 2) (nI 1)) (e5 : t5 = w2 t3 12 (rcn a) (nI k)) (e6 : t6 = setI t5 15 (nI (rcn a + 1))) : RepM (relA a k) t6 := by
  obtain ⟨h1, h2, h3, h4, ⟨s0, s1, s2, s3, s4, s5⟩, h6, h7⟩ := h
  subst e6
  subst e5
  subst e3
  refine ⟨h1, h2, h3, h4, ⟨s0, ?_, ?_, ?_, rfl, ?_⟩, h6, h7⟩
  · intro i hi
    show (w2 μ 11 (3 * k + 2) (nI 1)).2 11 (3 * i) = _
    rw [w2_at, if_neg (by omega)]
    exact s1 i hi
  · intro i hi
    show (w2 μ 11 (3 * k + 2) (nI 1)).2 11 (3 * i + 1) = _
    rw [w2_at, if_neg (by omega)]
    exact s2 i hi
  · intro i hi
    show (w2 μ 11 (3 * k + 2) (nI 1)).2 11 (3 * i + 2) = nI (if i = k then 1 else a 19 i 0 0)
    rw [w2_at]
    by_cases e : i = k
    · rw [if_pos (by omega), if_pos e]
    · rw [if_neg (by omega), if_neg e]
      exact s3 i hi
  · intro i hi
    have hi : i < rcn a + 1 := hi
    show (w2 (w2 μ 11 (3 * k + 2) (nI 1)) 12 (rcn a) (nI k)).2 12 i = nI (if i = rcn a then k else a 21 i 0 0)
    rw [w2_at]
    by_cases e : i = rcn a
    · rw [if_pos e, if_pos e]
    · rw [if_neg e, if_neg e, w2_ne _ _ _ (by decide)]
      exact s5 i (by omega)
theorem lM_releases {a0 : AS} {Φ : Int32 → St → Prop} (kk : ∀ (r : Nat) (b : AS) (μ' : St), r ≤ 30 → Rls r a0 b → RepM b μ' → Φ (nI r) μ') :
    ∀ (N c : Nat) (a : AS) (μ : St) (x : Int32), Inv a → RepM a μ → heldN a (scn a) < N → c + heldN a (scn a) ≤ 30 → (∀ r b, Rls r a b → Rls (c + r) a0 b) → ((x = -1 ∧ ∀ j, j < scn a → ¬ safe a j) ∨ ∃ k, isFst a (scn a) k ∧ x = nI k) → wlX10_releases_7 Φ N (nI c) x μ := by
  intro N
  induction N with
  | zero =>
    intro c a μ x h1 h2 h3
    omega
  | succ N ih =>
    intro c a μ x hI h hN hc hr hx
    have hb := hI.1
    have hsc := hb.2.2.2.2.2.2.1
    have hrc := hb.2.2.2.2.2.2.2.1
    show wlX10_releases_7_body Φ (wlX10_releases_7 Φ N) (nI c) x μ
    unfold wlX10_releases_7_body
    rcases hx with ⟨rfl, hx⟩ | ⟨k, hk, rfl⟩
    · refine ⟨fun _ => ?_, fun z => absurd rfl z⟩
      have := hr 0 a ⟨rfl, hx⟩
      exact kk c a μ (by omega) this h
    · have hk30 : k < 30 := by have := hk.1; omega
      refine ⟨fun z => ?_, fun _ => ?_⟩
      · rw [neI1 (by omega)] at z
        exact z.elim
      · have hI2 := inv_rel hI hk.1 hk.2.1.1
        have hr1 : rcn a + 1 ≤ scn a := hI2.1.2.2.2.2.2.2.2.1
        have hh := heldN_rel hk.2.1.1 (scn a)
        rw [if_pos hk.1] at hh
        rw [nI_lit 3, mulI, nI_lit 2, addI]
        refine ⟨pk_in (3 * k + 2) 90 (by omega), fun t3 e3 => ?_⟩
        rw [wr_nI _ _ _ (by omega)] at e3
        have a3 : t3.1 15 = nI (rcn a) := by rw [e3]; exact h.2.2.2.2.1.2.2.2.2.1
        rw [a3]
        refine ⟨pk_in (rcn a) 30 (by omega), fun t5 e5 t6 e6 y7 e7 => ?_⟩
        rw [wr_nI _ _ _ (by omega)] at e5
        have a5 : t5.1 15 = nI (rcn a) := by rw [e5]; exact a3
        rw [a5, nI_1] at e6
        have hrep := relM hb h hk.1 (by omega) e3 e5 e6
        rw [e7, nI_1]
        have hs2 : heldN (relA a k) (scn (relA a k)) = heldN (relA a k) (scn a) := rfl
        have hr2 : ∀ r b, Rls r (relA a k) b → Rls (c + 1 + r) a0 b := fun r b q => by
          have := hr (r + 1) b ⟨k, hk, q⟩
          rw [show c + 1 + r = c + (r + 1) by omega]
          exact this
        refine pM_firstSafe hI2 hrep (fun q => ?_) (fun j hj => ?_)
        · exact ih (c + 1) _ t6 _ hI2 hrep (by rw [hs2]; omega) (by rw [hs2]; omega) hr2 (Or.inl ⟨rfl, q⟩)
        · exact ih (c + 1) _ t6 _ hI2 hrep (by rw [hs2]; omega) (by rw [hs2]; omega) hr2 (Or.inr ⟨j, hj, rfl⟩)
theorem pM_releases {a : AS} {μ : St} (hI : Inv a) (h : RepM a μ) {Φ : Int32 → St → Prop} (kk : ∀ (r : Nat) (b : AS) (μ' : St), r ≤ 30 → Rls r a b → RepM b μ' → Φ (nI r) μ') : wpX10_releases μ Φ := by
  unfold wpX10_releases
  have hh := heldN_le a (scn a)
  have hsc := hI.1.2.2.2.2.2.2.1
  refine pM_firstSafe hI h (fun q => ⟨heldN a (scn a) + 1, ?_⟩) (fun k hk => ⟨heldN a (scn a) + 1, ?_⟩)
  · exact lM_releases kk _ 0 a μ _ hI h (Nat.lt_succ_self _) (by omega) (fun r b q => by rw [Nat.zero_add]; exact q) (Or.inl ⟨rfl, q⟩)
  · exact lM_releases kk _ 0 a μ _ hI h (Nat.lt_succ_self _) (by omega) (fun r b q => by rw [Nat.zero_add]; exact q) (Or.inr ⟨k, hk, rfl⟩)
/-- what is told of a saying -/
noncomputable def sayA (a : AS) (k w : Nat) : Int32 := if w = 0 then nI (sck a k) else if w = 1 then nI (spg a k) else if w = 2 then nI (sst a k) else b01 (safe a k)
theorem pM_sayingOf {a : AS} {μ : St} (hI : Inv a) (h : RepM a μ) {k w : Nat} (hk : k < scn a) (hw : w ≤ 3) {Φ : Int32 → St → Prop} (kk : Φ (sayA a k w) μ) : wpX10_sayingOf (nI k) (nI w) μ Φ := by
  unfold wpX10_sayingOf
  unfold sayA at kk
  have hsc := hI.1.2.2.2.2.2.2.1
  refine pk_le 3 w (fun q => ?_) (fun q => ?_)
  · have e : w = 3 := by omega
    subst e
    rw [if_neg (by decide), if_neg (by decide), if_neg (by decide)] at kk
    refine pM_isSafe hI h hk (brB (fun z => ?_) (fun z => ?_))
    · rw [b01_f z] at kk
      exact kk
    · rw [b01_t z] at kk
      exact kk
  · rw [nI_lit 3, mulI, addI, rd_nI _ _ (by omega)]
    refine ⟨pk_in (3 * k + w) 90 (by omega), ?_⟩
    rcases (show w = 0 ∨ w = 1 ∨ w = 2 by omega) with rfl | rfl | rfl
    · rw [Nat.add_zero, h.2.2.2.2.1.2.1 k hk]
      exact kk
    · rw [h.2.2.2.2.1.2.2.1 k hk]
      exact kk
    · rw [h.2.2.2.2.1.2.2.2.1 k hk]
      exact kk
/-- what is told of all -/
def toldA (a : AS) (w : Nat) : Nat := if w = 0 then bdn a else if w = 1 then non a else if w = 2 then fln a else if w = 3 then tln a else if w = 4 then nA a else if w = 5 then lcn a else if w = 6 then scn a else if w = 7 then heldN a (scn a) else if w = 8 then rcn a else gon a
theorem pM_toldOf {a : AS} {μ : St} (hI : Inv a) (h : RepM a μ) {w : Nat} (hw : w ≤ 9) {Φ : Int32 → St → Prop} (kk : Φ (nI (toldA a w)) μ) : wpX10_toldOf (nI w) μ Φ := by
  unfold wpX10_toldOf
  unfold toldA at kk
  have L : ∀ k : Nat, k < 10 → (nI w = nI k) = (w = k) := fun k hk => eqI (by omega) (by omega)
  rw [nI_lit 3, nI_lit 4, nI_lit 5, nI_lit 6, nI_lit 7, nI_lit 8, nI_lit 9, L 3 (by decide), L 4 (by decide), L 5 (by decide), L 6 (by decide), L 7 (by decide), L 8 (by decide), L 9 (by decide)]
  rw [h.2.2.2.2.2.2.1, h.1.1, h.2.2.2.1.1, h.2.2.2.2.1.1, h.2.2.2.2.1.2.2.2.2.1, h.2.2.2.2.2.1.1]
  refine ⟨fun e => ?_, fun e => ?_, fun e => ?_, fun e => ?_, fun e => ?_, fun e => ?_, fun e => ?_, fun e3 e4 e5 e6 e7 e8 e9 => ?_⟩
  · subst e; exact kk
  · subst e; exact kk
  · subst e; exact kk
  · subst e; exact kk
  · subst e; exact pM_held h hI.1 hI.2.1 kk
  · subst e; exact kk
  · subst e; exact kk
  · rw [rd_nI _ _ (by omega)]
    refine ⟨pk_in w 3 (by omega), ?_⟩
    rcases (show w = 0 ∨ w = 1 ∨ w = 2 by omega) with rfl | rfl | rfl
    · rw [h.2.2.2.2.2.1.2.1]
      exact kk
    · rw [h.2.2.2.2.2.1.2.2.1]
      exact kk
    · rw [h.2.2.2.2.2.1.2.2.2]
      exact kk
/-- dead letters go, from the last on: the first i are still to be looked at -/
noncomputable def swpA : Nat → AS → AS
  | 0, a => a
  | i + 1, a => @ite AS (deadL a i) (Classical.propDecidable _) (swpA i (takeA a i)) (swpA i a)
noncomputable def swpN : Nat → AS → Nat
  | 0, _ => 0
  | i + 1, a => @ite Nat (deadL a i) (Classical.propDecidable _) (1 + swpN i (takeA a i)) (swpN i a)
theorem swpA_t {a : AS} {i : Nat} (h : deadL a i) : swpA (i + 1) a = swpA i (takeA a i) ∧ swpN (i + 1) a = 1 + swpN i (takeA a i) := by
  constructor
  · show @ite AS (deadL a i) (Classical.propDecidable _) (swpA i (takeA a i)) (swpA i a) = _
    exact if_pos h
  · show @ite Nat (deadL a i) (Classical.propDecidable _) (1 + swpN i (takeA a i)) (swpN i a) = _
    exact if_pos h
theorem swpA_f {a : AS} {i : Nat} (h : ¬ deadL a i) : swpA (i + 1) a = swpA i a ∧ swpN (i + 1) a = swpN i a := by
  constructor
  · show @ite AS (deadL a i) (Classical.propDecidable _) (swpA i (takeA a i)) (swpA i a) = _
    exact if_neg h
  · show @ite Nat (deadL a i) (Classical.propDecidable _) (1 + swpN i (takeA a i)) (swpN i a) = _
    exact if_neg h
theorem swp_inv : ∀ (i : Nat) (a : AS), Inv a → i ≤ lcn a → Inv (swpA i a) := by
  intro i
  induction i with
  | zero => intro a h _; exact h
  | succ i ih =>
    intro a h hi
    by_cases q : deadL a i
    · rw [(swpA_t q).1]
      refine ih _ (inv_take h (by omega)) ?_
      show i ≤ lcn a - 1
      omega
    · rw [(swpA_f q).1]
      exact ih a h (by omega)
theorem lM_sweeps {Φ : Int32 → St → Prop} : ∀ (i c : Nat) (a : AS) (μ : St) (x : Int32), Inv a → RepM a μ → i ≤ lcn a → x = nI i - 1 → (∀ μ', RepM (swpA i a) μ' → Φ (nI (c + swpN i a)) μ') → wlX10_sweeps_9 Φ (i + 1) (nI c) x μ := by
  intro i
  induction i with
  | zero =>
    intro c a μ x hI h hi ex kk
    show wlX10_sweeps_9_body Φ (wlX10_sweeps_9 Φ 0) (nI c) x μ
    unfold wlX10_sweeps_9_body
    rw [ex]
    exact ⟨fun _ => kk μ h, fun z => absurd (by decide) z⟩
  | succ i ih =>
    intro c a μ x hI h hi ex kk
    have hlc := hI.1.2.2.2.2.2.1
    show wlX10_sweeps_9_body Φ (wlX10_sweeps_9 Φ (i + 1)) (nI c) x μ
    unfold wlX10_sweeps_9_body wbX10_sweeps_29
    rw [nI_pred] at ex
    rw [ex]
    refine ⟨fun z => absurd z (nI_pos (by omega)), fun _ => ?_⟩
    refine pM_isDeadLetter h hI.1 hI.2.1 (by omega) (brB (fun q y ey => ?_) (fun q => ?_))
    · refine ih c a μ y hI h (by omega) (by rw [ey]; exact (Int32.sub_eq_add_neg _ _).symm) ?_
      rw [← (swpA_f q).1, ← (swpA_f q).2]
      exact kk
    · refine pM_takeLetter h hlc (by omega) (fun μ' hμ' y6 e6 y ey => ?_)
      rw [e6, nI_1]
      refine ih (c + 1) (takeA a i) μ' y (inv_take hI (by omega)) hμ' (by show i ≤ lcn a - 1; omega) (by rw [ey]; exact (Int32.sub_eq_add_neg _ _).symm) ?_
      intro μ'' hμ''
      rw [← (swpA_t q).1] at hμ''
      have := kk μ'' hμ''
      rw [(swpA_t q).2, ← Nat.add_assoc] at this
      exact this
theorem pM_sweeps {a : AS} {μ : St} (hI : Inv a) (h : RepM a μ) {Φ : Int32 → St → Prop} (kk : ∀ μ', RepM (swpA (lcn a) a) μ' → Φ (nI (swpN (lcn a) a)) μ') : wpX10_sweeps μ Φ := by
  unfold wpX10_sweeps
  intro y ey
  refine ⟨lcn a + 1, ?_⟩
  rw [h.2.2.2.1.1] at ey
  refine lM_sweeps (lcn a) 0 a μ y hI h (Nat.le_refl _) ey ?_
  rw [Nat.zero_add]
  exact kk
