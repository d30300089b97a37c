theorem sumL {s x : Nat} (hs : s < 1000003) (hx : x < 1000003) : ((((3 : Int64) * ((nI s).toInt64)) + (nI x).toInt64) - (((3 : Int64) * ((nI s).toInt64)) + (nI x).toInt64) / (1000003 : Int64) * (1000003 : Int64)).toInt32 = nI ((3 * s + x) % 1000003) := by
  rw [nI_l (by omega), nI_l (by omega)]
  have e : (3 : Int64) * lN s + lN x = lN (3 * s + x) := by
    rw [show (3 : Int64) = lN 3 from rfl, lN_mul, lN_add]
  rw [e, show (1000003 : Int64) = lN 1000003 from rfl, pk_lRem (by omega) (by decide) (by decide), lN_i]
theorem lM_isDead {a : AS} {μ : St} (h : RepM a μ) {c l k : Nat} (hc : c < 5) (hlb : life a c ≤ 100) (hee : ∀ i, i < life a c → ends a c i < 2 ^ 31) (hk : k < 2 ^ 31) {Φ : Int32 → St → Prop} (kk : Φ (b01 (deadR a c l k)) μ) :
    ∀ (N i : Nat) (z : Int32), l ≤ i → i < 2 ^ 30 → life a c - i < N → z = b01 (∃ j, l ≤ j ∧ j < i ∧ j < life a c ∧ ends a c j < k) → wlX10_isDead_6 Φ N (nI c) (nI k) z (nI i) μ := by
  have hl := h.1.2.1 c hc
  intro N
  induction N with
  | zero =>
    intro i z h1 h2 h3
    omega
  | succ N ih =>
    intro i z hli hi hN ez
    show wlX10_isDead_6_body Φ (wlX10_isDead_6 Φ N) (nI c) (nI k) z (nI i) μ
    unfold wlX10_isDead_6_body wbX10_isDead_44
    rw [rd_nI _ _ (by omega), hl, nI_lit 128, mulI, addI]
    refine ⟨pk_in c 5 hc, pk_le (life a c) i (fun h1 => ?_) (fun h1 => ?_)⟩
    · subst ez
      refine ⟨b01_n _, ?_⟩
      rw [b01_c (Q := deadR a c l k)]
      · exact kk
      · constructor
        · rintro ⟨j, p1, p2, p3, p4⟩
          exact ⟨j, p1, p3, p4⟩
        · rintro ⟨j, p1, p3, p4⟩
          exact ⟨j, p1, by omega, p3, p4⟩
    · have he := h.2.1 c hc i h1
      have heb := hee i h1
      rw [rd_nI _ _ (by omega), he]
      subst ez
      refine brB (fun hn => ?_) (fun hp => ?_)
      · refine ⟨pk_in (128 * c + i) 640 (by omega), pk_le k (ends a c i) (fun h2 => ?_) (fun h2 => ?_)⟩
        · intro y hy
          rw [hy, nI_1]
          refine ih (i + 1) _ (by omega) (by omega) (by omega) ?_
          rw [b01_f]
          rintro ⟨j, p1, p2, p3, p4⟩
          by_cases e : j = i
          · subst e
            omega
          · exact hn ⟨j, p1, by omega, p3, p4⟩
        · intro y hy
          rw [hy, nI_1]
          refine ih (i + 1) _ (by omega) (by omega) (by omega) ?_
          rw [b01_t]
          exact ⟨i, hli, by omega, h1, h2⟩
      · intro y hy
        rw [hy, nI_1]
        refine ih (i + 1) _ (by omega) (by omega) (by omega) ?_
        rw [b01_t]
        obtain ⟨j, p1, p2, p3, p4⟩ := hp
        exact ⟨j, p1, by omega, p3, p4⟩
theorem pM_isDead {a : AS} {μ : St} (h : RepM a μ) {c l k : Nat} (hc : c < 5) (hlb : life a c ≤ 100) (hee : ∀ i, i < life a c → ends a c i < 2 ^ 31) (hl : l < 2 ^ 30) (hk : k < 2 ^ 31) {Φ : Int32 → St → Prop} (kk : Φ (b01 (deadR a c l k)) μ) : wpX10_isDead (nI c) (nI l) (nI k) μ Φ := by
  unfold wpX10_isDead
  refine ⟨_, lM_isDead h hc hlb hee hk kk (life a c - l + 1) l _ (Nat.le_refl _) hl (by omega) ?_⟩
  rw [b01_f]
  rintro ⟨j, p1, p2, -⟩
  omega
theorem lM_isDeadLetter {a : AS} {μ : St} (h : RepM a μ) (hb : Bd a) (hs : Sm a) {m : Nat} (hm : m < lcn a) {Φ : Int32 → St → Prop} (kk : Φ (b01 (deadL a m)) μ) :
    ∀ (N i : Nat) (z : Int32), i ≤ nA a → nA a - i < N → z = b01 (∃ c, c < i ∧ deadR a c (lrl a m c) (lrp a m c)) → wlX10_isDeadLetter_4 Φ N (nI m) z (nI i) μ := by
  have hn := hb.1
  have hlc := hb.2.2.2.2.2.1
  intro N
  induction N with
  | zero =>
    intro i z h1 h2
    omega
  | succ N ih =>
    intro i z hi hN ez
    show wlX10_isDeadLetter_4_body Φ (wlX10_isDeadLetter_4 Φ N) (nI m) z (nI i) μ
    unfold wlX10_isDeadLetter_4_body wbX10_isDeadLetter_56
    rw [h.1.1, nI_lit 13, nI_lit 3, nI_lit 8, mulI, addI, addI, addI, addI]
    refine pk_le (nA a) i (fun h1 => ?_) (fun h1 => ?_)
    · subst ez
      refine ⟨b01_n _, ?_⟩
      rw [b01_c (Q := deadL a m)]
      · exact kk
      · have e : i = nA a := by omega
        subst e
        exact Iff.rfl
    · have e1 := h.2.2.2.1.2.2.2.2.1 m hm i (by omega)
      have e2 := h.2.2.2.1.2.2.2.2.2 m hm i (by omega)
      have s1 := hs.2.2.2.1 m hm i (by omega)
      rw [rd_nI _ _ (by omega), rd_nI _ _ (by omega), e1, e2]
      subst ez
      refine brB (fun hn1 => ?_) (fun hp => ?_)
      · refine ⟨pk_in (13 * m + 3 + i) 520 (by omega), pk_in (13 * m + 8 + i) 520 (by omega), ?_⟩
        refine pM_isDead h (by omega) (by have := hb.2.2.2.2.1 i (by omega); omega) (fun j hj => by have := hs.2.2.2.2.1 i (by omega) j hj; omega) (by omega) (by omega) ?_
        refine brB (fun h2 => ?_) (fun h2 => ?_)
        · intro y hy
          rw [hy, nI_1]
          refine ih (i + 1) _ (by omega) (by omega) ?_
          rw [b01_f]
          rintro ⟨c, p1, p2⟩
          by_cases e : c = i
          · subst e
            exact h2 p2
          · exact hn1 ⟨c, by omega, p2⟩
        · intro y hy
          rw [hy, nI_1]
          refine ih (i + 1) _ (by omega) (by omega) ?_
          rw [b01_t]
          exact ⟨i, by omega, h2⟩
      · intro y hy
        rw [hy, nI_1]
        refine ih (i + 1) _ (by omega) (by omega) ?_
        rw [b01_t]
        obtain ⟨c, p1, p2⟩ := hp
        exact ⟨c, by omega, p2⟩
theorem pM_isDeadLetter {a : AS} {μ : St} (h : RepM a μ) (hb : Bd a) (hs : Sm a) {m : Nat} (hm : m < lcn a) {Φ : Int32 → St → Prop} (kk : Φ (b01 (deadL a m)) μ) : wpX10_isDeadLetter (nI m) μ Φ := by
  unfold wpX10_isDeadLetter
  refine ⟨_, lM_isDeadLetter h hb hs hm kk (nA a + 1) 0 _ (Nat.zero_le _) (by omega) ?_⟩
  rw [b01_f]
  rintro ⟨c, p1, -⟩
  omega
theorem lM_letterAt {a : AS} {μ : St} (h : RepM a μ) (hb : Bd a) (hs : Sm a) {d k : Nat} (hd : d < 2 ^ 31) (hk : k < 2 ^ 31) {Φ : Int32 → St → Prop} (k1 : ∀ m, isNth a d k m → Φ (nI m) μ) (k2 : (∀ m, ¬ isNth a d k m) → Φ (-1) μ) :
    ∀ (N i q : Nat), i ≤ lcn a → lcn a - i < N → cntTo a d i + q = k → (∀ m, m < i → ¬ isNth a d k m) → wlX10_letterAt_5 Φ N (nI d) (nI q) (nI i) μ := by
  have hlc := hb.2.2.2.2.2.1
  intro N
  induction N with
  | zero =>
    intro i q h1 h2
    omega
  | succ N ih =>
    intro i q hi hN hq hno
    show wlX10_letterAt_5_body Φ (wlX10_letterAt_5 Φ N) (nI d) (nI q) (nI i) μ
    unfold wlX10_letterAt_5_body wbX10_letterAt_38
    rw [h.2.2.2.1.1, nI_lit 13, mulI]
    refine pk_le (lcn a) i (fun h1 => ?_) (fun h1 => ?_)
    · exact k2 (fun m hm => hno m (by have := hm.1; omega) hm)
    · have e1 := h.2.2.2.1.2.1 i h1
      have s1 := (hs.2.2.2.2.2.2.1 i h1).1
      have hn := hb.1
      rw [rd_nI _ _ (by omega), e1]
      refine ⟨pk_in (13 * i) 520 (by omega), pk_eq (lto a i) d (fun h2 => ?_) (fun h2 => ?_)⟩
      · refine pk_eq q 0 (fun h3 => ?_) (fun h3 => ?_)
        · exact k1 i ⟨h1, h2, by omega⟩
        · intro y hy y2 hy2
          obtain ⟨q', rfl⟩ : ∃ q', q = q' + 1 := ⟨q - 1, by omega⟩
          rw [hy, hy2, nI_1, pk_m1]
          refine ih (i + 1) q' (by omega) (by omega) ?_ (fun m hm hx => ?_)
          · show cntTo a d i + (if lto a i = d then 1 else 0) + q' = k
            rw [if_pos h2]
            omega
          · by_cases e : m = i
            · subst e
              have := hx.2.2
              omega
            · exact hno m (by omega) hx
      · intro y hy
        rw [hy, nI_1]
        refine ih (i + 1) q (by omega) (by omega) ?_ (fun m hm hx => ?_)
        · show cntTo a d i + (if lto a i = d then 1 else 0) + q = k
          rw [if_neg h2]
          omega
        · by_cases e : m = i
          · subst e
            exact h2 hx.2.1
          · exact hno m (by omega) hx
theorem pM_letterAt {a : AS} {μ : St} (h : RepM a μ) (hb : Bd a) (hs : Sm a) {d k : Nat} (hd : d < 2 ^ 31) (hk : k < 2 ^ 31) {Φ : Int32 → St → Prop} (k1 : ∀ m, isNth a d k m → Φ (nI m) μ) (k2 : (∀ m, ¬ isNth a d k m) → Φ (-1) μ) : wpX10_letterAt (nI d) (nI k) μ Φ := by
  unfold wpX10_letterAt
  exact ⟨_, lM_letterAt h hb hs hd hk k1 k2 (lcn a + 1) 0 k (Nat.zero_le _) (by omega) (Nat.zero_add k) (fun m hm => absurd hm (Nat.not_lt_zero m))⟩
/-- letters moved down by one, from the place b on, up to j -/
def shM (μ : St) (b j : Nat) : St := (μ.1, fun t => if t = 10 then (fun i => if b ≤ i ∧ i < j then μ.2 10 (i + 13) else μ.2 10 i) else μ.2 t)
theorem shM_step (μ : St) {b j : Nat} (hj : b ≤ j) : w2 (shM μ b j) 10 j ((shM μ b j).2 10 (j + 13)) = shM μ b (j + 1) := by
  refine Prod.ext rfl ?_
  funext t i
  rw [w2_rd]
  by_cases ht : t = 10
  · subst ht
    rw [if_pos rfl]
    simp only [shM, if_true]
    by_cases hi : i = j
    · subst hi
      rw [if_pos rfl, if_neg (by omega), if_pos (by omega)]
    · rw [if_neg hi]
      by_cases h1 : b ≤ i ∧ i < j
      · rw [if_pos h1, if_pos (by omega)]
      · rw [if_neg h1, if_neg (by omega)]
  · rw [if_neg ht]
    simp only [shM, if_neg ht]
theorem lM_takeLetter {μ : St} {b e : Nat} (he : μ.1 11 = nI e) (hb : e ≤ 39) {Φ : St → Prop} (kk : ∀ j, 13 * e ≤ j → b ≤ 13 * e → j = 13 * e → Φ (shM μ b j)) (hbe : b ≤ 13 * e) :
    ∀ (N j : Nat), b ≤ j → j ≤ 13 * e → 13 * e - j < N → wlX10_takeLetter_15 Φ N (nI j) (shM μ b j) := by
  intro N
  induction N with
  | zero =>
    intro j h1 h2 h3
    omega
  | succ N ih =>
    intro j h1 h2 hN
    show wlX10_takeLetter_15_body Φ (wlX10_takeLetter_15 Φ N) (nI j) (shM μ b j)
    unfold wlX10_takeLetter_15_body
    rw [show (shM μ b j).1 11 = nI e from he, nI_lit 13, mulI, addI]
    refine pk_le (13 * e) j (fun h3 => ?_) (fun h3 => ?_)
    · exact kk j h3 hbe (by omega)
    · refine ⟨pk_in (j + 13) 520 (by omega), pk_in j 520 (by omega), fun t ht y hy => ?_⟩
      rw [rd_nI _ _ (by omega), wr_nI _ _ _ (by omega), shM_step μ h1] at ht
      rw [ht, hy, nI_1]
      exact ih (j + 1) (by omega) (by omega) (by omega)
theorem shM_0 (μ : St) (b : Nat) : shM μ b b = μ := by
  refine Prod.ext rfl ?_
  funext t i
  simp only [shM]
  by_cases ht : t = 10
  · subst ht
    rw [if_pos rfl, if_neg (by omega)]
  · rw [if_neg ht]
theorem pM_takeLetter {a : AS} {μ : St} (h : RepM a μ) (hlc : lcn a ≤ 40) {m : Nat} (hm : m < lcn a) {Φ : St → Prop} (kk : ∀ μ', RepM (takeA a m) μ' → Φ μ') : wpX10_takeLetter (nI m) μ Φ := by
  unfold wpX10_takeLetter
  obtain ⟨h1, h2, h3, ⟨g1, g2, g3, g4, g5, g6⟩, h5, h6, h7⟩ := h
  intro t ht y hy
  rw [g1, nI_lit 1, subI (by omega)] at ht
  rw [hy, nI_lit 13, mulI]
  have e11 : t.1 11 = nI (lcn a - 1) := by rw [ht]; rfl
  have lp := lM_takeLetter (μ := t) (b := 13 * m) (e := lcn a - 1) e11 (by omega) (Φ := Φ) ?_ (by omega) (13 * (lcn a - 1) + 1) (13 * m) (Nat.le_refl _) (by omega) (by omega)
  · rw [shM_0] at lp
    exact ⟨_, lp⟩
  · intro j q1 q2 q3
    subst q3
    have key : ∀ f, f < 13 → ∀ i, i < lcn a - 1 → (shM t (13 * m) (13 * (lcn a - 1))).2 10 (13 * i + f) = if i < m then μ.2 10 (13 * i + f) else μ.2 10 (13 * (i + 1) + f) := by
      intro f hf i hi
      have e : t.2 = μ.2 := by rw [ht]; rfl
      simp only [shM, if_true]
      rw [e]
      by_cases h : i < m
      · rw [if_pos h, if_neg (by omega)]
      · rw [if_neg h, if_pos (by omega), show 13 * i + f + 13 = 13 * (i + 1) + f by omega]
    subst ht
    refine kk _ ⟨h1, h2, h3, ⟨e11, ?_, ?_, ?_, ?_, ?_⟩, h5, h6, h7⟩
    · intro i hi
      have hi : i < lcn a - 1 := hi
      have := key 0 (by decide) i hi
      rw [Nat.add_zero, Nat.add_zero, Nat.add_zero] at this
      rw [this]
      show _ = nI (shf m (a 11) i 0 0)
      unfold shf
      by_cases h : i < m
      · rw [if_pos h, if_pos h, g2 i (by omega)]
      · rw [if_neg h, if_neg h, g2 (i + 1) (by omega)]
    · intro i hi
      have hi : i < lcn a - 1 := hi
      rw [key 1 (by decide) i hi]
      show _ = nI (shf m (a 12) i 0 0)
      unfold shf
      by_cases h : i < m
      · rw [if_pos h, if_pos h, g3 i (by omega)]
      · rw [if_neg h, if_neg h, g3 (i + 1) (by omega)]
    · intro i hi
      have hi : i < lcn a - 1 := hi
      rw [key 2 (by decide) i hi]
      show _ = nI (shf m (a 13) i 0 0)
      unfold shf
      by_cases h : i < m
      · rw [if_pos h, if_pos h, g4 i (by omega)]
      · rw [if_neg h, if_neg h, g4 (i + 1) (by omega)]
    · intro i hi d hd
      have hi : i < lcn a - 1 := hi
      rw [Nat.add_assoc, key (3 + d) (by omega) i hi, ← Nat.add_assoc, ← Nat.add_assoc]
      show _ = nI (shf m (a 14) i d 0)
      unfold shf
      by_cases h : i < m
      · rw [if_pos h, if_pos h, g5 i (by omega) d hd]
      · rw [if_neg h, if_neg h, g5 (i + 1) (by omega) d hd]
    · intro i hi d hd
      have hi : i < lcn a - 1 := hi
      rw [Nat.add_assoc, key (8 + d) (by omega) i hi, ← Nat.add_assoc, ← Nat.add_assoc]
      show _ = nI (shf m (a 15) i d 0)
      unfold shf
      by_cases h : i < m
      · rw [if_pos h, if_pos h, g6 i (by omega) d hd]
      · rw [if_neg h, if_neg h, g6 (i + 1) (by omega) d hd]
