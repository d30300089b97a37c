theorem cntTo_le (a : AS) (d : Nat) : ∀ m, cntTo a d m ≤ m := by
  intro m
  induction m with
  | zero => exact Nat.le_refl 0
  | succ m ih =>
    show cntTo a d m + (if lto a m = d then 1 else 0) ≤ m + 1
    by_cases q : lto a m = d
    · rw [if_pos q]
      omega
    · rw [if_neg q]
      omega
theorem heldBy_le (a : AS) (c : Nat) : ∀ k, heldBy a c k ≤ k := by
  intro k
  induction k with
  | zero => exact Nat.le_refl 0
  | succ k ih =>
    show heldBy a c k + (if sck a k = c ∧ sst a k = 0 then 1 else 0) ≤ k + 1
    by_cases q : sck a k = c ∧ sst a k = 0
    · rw [if_pos q]
      omega
    · rw [if_neg q]
      omega
theorem lM_lettersTo {a : AS} {μ : St} (h : RepM a μ) (hb : Bd a) (hs : Sm a) {d : Nat} (hd : d < 2 ^ 31) {Φ : Int32 → St → Prop} (kk : Φ (nI (cntTo a d (lcn a))) μ) :
    ∀ (N i : Nat), i ≤ lcn a → lcn a - i < N → wlX10_lettersTo_4 Φ N (nI d) (nI (cntTo a d i)) (nI i) μ := by
  have hlc := hb.2.2.2.2.2.1
  have hn := hb.1
  intro N
  induction N with
  | zero =>
    intro i h1 h2
    omega
  | succ N ih =>
    intro i hi hN
    show wlX10_lettersTo_4_body Φ (wlX10_lettersTo_4 Φ N) (nI d) (nI (cntTo a d i)) (nI i) μ
    unfold wlX10_lettersTo_4_body wbX10_lettersTo_31
    rw [h.2.2.2.1.1, nI_lit 13, mulI]
    refine pk_le (lcn a) i (fun h1 => ?_) (fun h1 => ?_)
    · have e : i = lcn a := by omega
      subst e
      exact kk
    · have e1 := h.2.2.2.1.2.1 i h1
      have s1 := (hs.2.2.2.2.2.2.1 i h1).1
      have es : cntTo a d (i + 1) = cntTo a d i + (if lto a i = d then 1 else 0) := rfl
      rw [rd_nI _ _ (by omega), e1]
      refine ⟨pk_in (13 * i) 520 (by omega), pk_eq (lto a i) d (fun q y ey y2 ey2 => ?_) (fun q y ey y2 ey2 => ?_)⟩
      · have := ih (i + 1) (by omega) (by omega)
        rw [es, if_pos q] at this
        rw [ey, ey2, nI_1, nI_1]
        exact this
      · have := ih (i + 1) (by omega) (by omega)
        rw [es, if_neg q] at this
        rw [ey, ey2, nI_1, nI_lit 0, addI]
        exact this
theorem pM_lettersTo {a : AS} {μ : St} (h : RepM a μ) (hb : Bd a) (hs : Sm a) {d : Nat} (hd : d < 2 ^ 31) {Φ : Int32 → St → Prop} (kk : Φ (nI (cntTo a d (lcn a))) μ) : wpX10_lettersTo (nI d) μ Φ := by
  unfold wpX10_lettersTo
  exact ⟨lcn a + 1, lM_lettersTo h hb hs hd kk (lcn a + 1) 0 (Nat.zero_le _) (by omega)⟩
theorem lM_held {a : AS} {μ : St} (h : RepM a μ) (hb : Bd a) (hs : Sm a) {Φ : Int32 → St → Prop} (kk : Φ (nI (heldN a (scn a))) μ) :
    ∀ (N i : Nat), i ≤ scn a → scn a - i < N → wlX10_heldOf_4 Φ N (-1) (nI (heldN a i)) (nI i) μ := by
  have hsc := hb.2.2.2.2.2.2.1
  intro N
  induction N with
  | zero =>
    intro i h1 h2
    omega
  | succ N ih =>
    intro i hi hN
    show wlX10_heldOf_4_body Φ (wlX10_heldOf_4 Φ N) (-1) (nI (heldN a i)) (nI i) μ
    unfold wlX10_heldOf_4_body wbX10_heldOf_30 wbX10_heldOf_47 wbX10_heldOf_48
    rw [h.2.2.2.2.1.1, nI_lit 3, mulI, nI_lit 2, addI]
    refine pk_le (scn a) i (fun h1 => ?_) (fun h1 => ⟨fun _ => ?_, fun q => absurd rfl q⟩)
    · have e : i = scn a := by omega
      subst e
      exact kk
    · have e1 := h.2.2.2.2.1.2.2.2.1 i h1
      have s1 := (hs.2.2.2.2.2.2.2.1 i h1).2.2
      have es : heldN a (i + 1) = heldN a i + (if sst a i = 0 then 1 else 0) := rfl
      rw [rd_nI _ _ (by omega), e1]
      refine ⟨pk_in (3 * i + 2) 90 (by omega), pk_eq (sst a i) 0 (fun q y ey y2 ey2 => ?_) (fun q y ey y2 ey2 => ?_)⟩
      · have := ih (i + 1) (by omega) (by omega)
        rw [es, if_pos q] at this
        rw [ey, ey2, nI_1, nI_1]
        exact this
      · have := ih (i + 1) (by omega) (by omega)
        rw [es, if_neg q] at this
        rw [ey, ey2, nI_1, nI_lit 0, addI]
        exact this
theorem pM_held {a : AS} {μ : St} (h : RepM a μ) (hb : Bd a) (hs : Sm a) {Φ : Int32 → St → Prop} (kk : Φ (nI (heldN a (scn a))) μ) : wpX10_heldOf (-1) μ Φ := by
  unfold wpX10_heldOf
  exact ⟨scn a + 1, lM_held h hb hs kk (scn a + 1) 0 (Nat.zero_le _) (by omega)⟩
theorem lM_heldBy {a : AS} {μ : St} (h : RepM a μ) (hb : Bd a) (hs : Sm a) {c : Nat} (hc : c < 2 ^ 31) {Φ : Int32 → St → Prop} (kk : Φ (nI (heldBy a c (scn a))) μ) :
    ∀ (N i : Nat), i ≤ scn a → scn a - i < N → wlX10_heldOf_4 Φ N (nI c) (nI (heldBy a c i)) (nI i) μ := by
  have hsc := hb.2.2.2.2.2.2.1
  have hn := hb.1
  intro N
  induction N with
  | zero =>
    intro i h1 h2
    omega
  | succ N ih =>
    intro i hi hN
    show wlX10_heldOf_4_body Φ (wlX10_heldOf_4 Φ N) (nI c) (nI (heldBy a c i)) (nI i) μ
    unfold wlX10_heldOf_4_body wbX10_heldOf_30 wbX10_heldOf_47 wbX10_heldOf_48
    rw [h.2.2.2.2.1.1, nI_lit 3, mulI, nI_lit 2, addI]
    refine pk_le (scn a) i (fun h1 => ?_) (fun h1 => ⟨fun q => ?_, fun _ => ?_⟩)
    · have e : i = scn a := by omega
      subst e
      exact kk
    · rw [neI1 hc] at q
      exact q.elim
    · have e1 := h.2.2.2.2.1.2.2.2.1 i h1
      have e2 := h.2.2.2.2.1.2.1 i h1
      have s0 := hs.2.2.2.2.2.2.2.1 i h1
      have es : heldBy a c (i + 1) = heldBy a c i + (if sck a i = c ∧ sst a i = 0 then 1 else 0) := rfl
      rw [rd_nI _ _ (by omega), rd_nI _ _ (by omega), e1, e2]
      have no : ¬ (sck a i = c ∧ sst a i = 0) → (∀ y1 : Int32, y1 = nI (heldBy a c i) + (0 : Int32) → (∀ y2 : Int32, y2 = nI i + (1 : Int32) → wlX10_heldOf_4 Φ N (nI c) y1 y2 μ)) := by
        intro q y ey y2 ey2
        have := ih (i + 1) (by omega) (by omega)
        rw [es, if_neg q] at this
        rw [ey, ey2, nI_1, nI_lit 0, addI]
        exact this
      refine ⟨pk_in (3 * i) 90 (by omega), pk_eq (sck a i) c (fun q => ⟨pk_in (3 * i + 2) 90 (by omega), pk_eq (sst a i) 0 (fun q2 y ey y2 ey2 => ?_) (fun q2 => no (fun z => q2 z.2))⟩) (fun q => no (fun z => q z.1))⟩
      have := ih (i + 1) (by omega) (by omega)
      rw [es, if_pos ⟨q, q2⟩] at this
      rw [ey, ey2, nI_1, nI_1]
      exact this
theorem pM_heldBy {a : AS} {μ : St} (h : RepM a μ) (hb : Bd a) (hs : Sm a) {c : Nat} (hc : c < 2 ^ 31) {Φ : Int32 → St → Prop} (kk : Φ (nI (heldBy a c (scn a))) μ) : wpX10_heldOf (nI c) μ Φ := by
  unfold wpX10_heldOf
  exact ⟨scn a + 1, lM_heldBy h hb hs hc kk (scn a + 1) 0 (Nat.zero_le _) (by omega)⟩
/-- what is told of a clerk -/
noncomputable def ofA (a : AS) (c w : Nat) : Nat :=
  if w = 0 then life a c else if w = 1 then now a c else if w = 2 then wri a c else if w = 3 then firm a c else if w = 4 then frm a c else if w = 5 then pgs a c (now a c) else if w = 6 then cntTo a c (lcn a) else heldBy a c (scn a)
theorem pM_clerkOf {a : AS} {μ : St} (h : RepM a μ) (hb : Bd a) (hs : Sm a) (hi : Iv a) {c w : Nat} (hc : c < nA a) (hw : w ≤ 7) {Φ : Int32 → St → Prop} (kk : Φ (nI (ofA a c w)) μ) : wpX10_clerkOf (nI c) (nI w) μ Φ := by
  have hn := hb.1
  have hc5 : c < 5 := by omega
  have h23 := hb.2.1 c hc5
  unfold wpX10_clerkOf wpX10_pageOf
  unfold ofA at kk
  have L : ∀ k : Nat, k < 8 → (nI w = nI k) = (w = k) := fun k hk => eqI (by omega) (by omega)
  rw [nI_lit 0, nI_lit 1, nI_lit 2, nI_lit 3, nI_lit 4, nI_lit 5, nI_lit 6, L 0 (by decide), L 1 (by decide), L 2 (by decide), L 3 (by decide), L 4 (by decide), L 5 (by decide), L 6 (by decide), nI_lit 24, mulI]
  rw [rd_nI _ _ (by omega), rd_nI _ _ (by omega), rd_nI _ _ (by omega), rd_nI _ _ (by omega), h.1.2.1 c hc5, h.1.2.2.1 c hc5, h.1.2.2.2.1 c hc5, h.1.2.2.2.2 c hc5, addI]
  dsimp only
  rw [rd_nI _ _ (by omega), h.2.2.1.2.1 c hc5 _ (Nat.le_refl _)]
  refine ⟨fun e => ?_, fun e => ?_, fun e => ?_, fun e => ?_, fun e => ?_, fun e => ?_, fun e => ?_, fun e0 e1 e2 e3 e4 e5 e6 => ?_⟩
  · subst e
    exact ⟨pk_in c 5 hc5, kk⟩
  · subst e
    exact ⟨pk_in c 5 hc5, kk⟩
  · subst e
    exact ⟨pk_in c 5 hc5, kk⟩
  · subst e
    exact pM_firmOf h hb hs hi hc kk
  · subst e
    exact ⟨pk_in c 5 hc5, kk⟩
  · subst e
    exact ⟨pk_in c 5 hc5, pk_in (24 * c + now a c) 120 (by omega), kk⟩
  · subst e
    exact pM_lettersTo h hb hs (by omega) kk
  · rw [if_neg e0, if_neg e1, if_neg e2, if_neg e3, if_neg e4, if_neg e5, if_neg e6] at kk
    exact pM_heldBy h hb hs (by omega) kk
/-- how many a cut cuts off -/
noncomputable def cutK (a : AS) (c : Nat) : Nat := if frm a c < firm a c then firm a c - frm a c else 0
theorem pM_cutsNow {a : AS} {μ : St} (h : RepM a μ) (hb : Bd a) (hs : Sm a) (hi : Iv a) {c : Nat} (hc : c < nA a) {Φ : Int32 → St → Prop} (kk : ∀ μ', RepM (cutA a c) μ' → Φ (nI (cutK a c)) μ') : wpX10_cutsNow (nI c) μ Φ := by
  unfold wpX10_cutsNow wbX10_cutsNow_28
  have hn := hb.1
  have hc5 : c < 5 := by omega
  have h23 := hb.2.1 c hc5
  have hf := (firm_ok hi hc).1
  have hfr := hb.2.2.2.1 c hc5
  have fin : ∀ v : Nat, v = cutK a c → ∀ t3 : St, t3 = wr μ 4 (nI c) (rd μ 4 (nI c) + nI v) → Φ (nI v) t3 := by
    intro v ev t3 et3
    rw [rd_nI _ _ (by omega), wr_nI _ _ _ (by omega), h.1.2.2.2.2 c hc5, addI] at et3
    rw [ev]
    refine kk t3 ?_
    rw [et3]
    obtain ⟨⟨g0, g1, g2, g3, g4⟩, h2, h3, h4, h5, h6, h7⟩ := h
    refine ⟨⟨g0, g1, g2, g3, ?_⟩, h2, h3, h4, h5, h6, h7⟩
    intro i hi'
    show (w2 μ 4 c _).2 4 i = nI (if i = c then (if frm a c < firm a c then firm a c else frm a c) else a 4 i 0 0)
    rw [w2_at]
    by_cases e : i = c
    · rw [if_pos e, if_pos e, ev]
      unfold cutK
      by_cases q : frm a c < firm a c
      · rw [if_pos q, if_pos q]
        congr 1
        omega
      · rw [if_neg q, if_neg q, Nat.add_zero]
    · rw [if_neg e, if_neg e]
      exact g4 i hi'
  refine pM_firmOf h hb hs hi hc ⟨pk_in c 5 hc5, ?_⟩
  have er : rd μ 4 (nI c) = nI (frm a c) := by rw [rd_nI _ _ (by omega)]; exact h.1.2.2.2.2 c hc5
  rw [er]
  rw [er] at fin
  refine pk_le (firm a c) (frm a c) (fun q => ⟨pk_in c 5 hc5, pk_in c 5 hc5, fun t3 et3 => fin 0 (by unfold cutK; rw [if_neg (by omega)]) t3 et3⟩) (fun q => ⟨pk_in c 5 hc5, ?_⟩)
  rw [subI (by omega)]
  exact ⟨pk_in c 5 hc5, pk_in c 5 hc5, fun t3 et3 => fin (firm a c - frm a c) (by unfold cutK; rw [if_pos q]) t3 et3⟩
/-- the cut of the first b clerks -/
noncomputable def cutB (a : AS) : Nat → AS
  | 0 => a
  | b + 1 => cutA (cutB a b) b
theorem cutB_inv {a : AS} (h : Inv a) : ∀ b, b ≤ nA a → Inv (cutB a b) ∧ nA (cutB a b) = nA a := by
  intro b
  induction b with
  | zero => intro _; exact ⟨h, rfl⟩
  | succ b ih =>
    intro hb
    obtain ⟨h1, h2⟩ := ih (by omega)
    refine ⟨inv_cut h1 (by rw [h2]; omega), ?_⟩
    show nA (cutB a b) = nA a
    exact h2
theorem lM_cutsAll {a : AS} (hI : Inv a) {Φ : Int32 → St → Prop} (kk : ∀ (s : Nat) (μ' : St), s ≤ 1000 → RepM (cutB a (nA a)) μ' → Φ (nI s) μ') :
    ∀ (N b s : Nat) (μ : St), b ≤ nA a → nA a - b < N → s ≤ 23 * b → RepM (cutB a b) μ → wlX10_cutsAll_4 Φ N (nI s) (nI b) μ := by
  have hn := hI.1.1
  intro N
  induction N with
  | zero =>
    intro b s μ h1 h2
    omega
  | succ N ih =>
    intro b s μ hb hN hs h
    show wlX10_cutsAll_4_body Φ (wlX10_cutsAll_4 Φ N) (nI s) (nI b) μ
    unfold wlX10_cutsAll_4_body
    obtain ⟨hI2, n2⟩ := cutB_inv hI b hb
    rw [h.1.1, n2]
    refine pk_le (nA a) b (fun h1 => ?_) (fun h1 => ?_)
    · have e : b = nA a := by omega
      subst e
      exact kk s μ (by omega) h
    · refine pM_cutsNow h hI2.1 hI2.2.1 hI2.2.2.1 (by rw [n2]; exact h1) (fun μ' hμ' y ey y2 ey2 => ?_)
      have hk : cutK (cutB a b) b ≤ 23 := by
        have h1 := (firm_ok hI2.2.2.1 (c := b) (by rw [n2]; exact h1)).1
        have h2 := hI2.1.2.1 b (by omega)
        unfold cutK
        by_cases q : frm (cutB a b) b < firm (cutB a b) b
        · rw [if_pos q]
          omega
        · rw [if_neg q]
          omega
      rw [ey, ey2, nI_1, addI]
      exact ih (b + 1) _ μ' (by omega) (by omega) (by omega) hμ'
theorem pM_cutsAll {a : AS} {μ : St} (hI : Inv a) (h : RepM a μ) {Φ : Int32 → St → Prop} (kk : ∀ (s : Nat) (μ' : St), s ≤ 1000 → RepM (cutB a (nA a)) μ' → Φ (nI s) μ') : wpX10_cutsAll μ Φ := by
  unfold wpX10_cutsAll
  exact ⟨nA a + 1, lM_cutsAll hI kk (nA a + 1) 0 0 μ (Nat.zero_le _) (by omega) (Nat.zero_le _) h⟩
theorem pM_saysNow {a : AS} {μ : St} (hI : Inv a) (h : RepM a μ) {c : Nat} (hc : c < nA a) {Φ : Int32 → St → Prop} (k1 : scn a = 30 → Φ (-4) μ) (k2 : scn a < 30 → ∀ μ', RepM (saysA a c) μ' → Φ (nI (heldN (saysA a c) (scn a + 1))) μ') : wpX10_saysNow (nI c) μ Φ := by
  unfold wpX10_saysNow
  have hb := hI.1
  have hn := hb.1
  have hsc := hb.2.2.2.2.2.2.1
  have hc5 : c < 5 := by omega
  obtain ⟨⟨g0, g1, g2, g3, g4⟩, h2, h3, h4, ⟨s0, s1, s2, s3, s4, s5⟩, h6, h7⟩ := h
  rw [s0, nI_lit 3, mulI]
  refine pk_eq (scn a) 30 (fun q => k1 q) (fun q => ⟨pk_in (3 * scn a) 90 (by omega), fun t3 e3 => ⟨pk_in c 5 hc5, ?_⟩⟩)
  rw [wr_nI _ _ _ (by omega)] at e3
  have a3 : t3.1 13 = nI (scn a) := by rw [e3]; exact s0
  have b3 : t3.2 2 c = nI (now a c) := by rw [e3, w2_ne _ _ _ (by decide)]; exact g2 c hc5
  rw [a3, mulI, nI_lit 1, addI, rd_nI _ _ (by omega), b3]
  refine ⟨pk_in (3 * scn a + 1) 90 (by omega), fun t6 e6 => ?_⟩
  rw [wr_nI _ _ _ (by omega)] at e6
  have a6 : t6.1 13 = nI (scn a) := by rw [e6]; exact a3
  rw [a6, mulI, nI_lit 2, addI]
  refine ⟨pk_in (3 * scn a + 2) 90 (by omega), fun t8 e8 t9 e9 => ?_⟩
  rw [wr_nI _ _ _ (by omega)] at e8
  have a8 : t8.1 13 = nI (scn a) := by rw [e8]; exact a6
  rw [a8, addI] at e9
  have hrep : RepM (saysA a c) t9 := by
    subst e9
    subst e8
    subst e6
    subst e3
    refine ⟨⟨g0, g1, g2, g3, g4⟩, h2, h3, h4, ⟨rfl, ?_, ?_, ?_, s4, s5⟩, h6, h7⟩
    · intro k hk
      have hk : k < scn a + 1 := hk
      show (w2 (w2 (w2 μ 11 (3 * scn a) (nI c)) 11 (3 * scn a + 1) (nI (now a c))) 11 (3 * scn a + 2) (nI 0)).2 11 (3 * k) = nI (if k = scn a then c else a 17 k 0 0)
      rw [w2_at, if_neg (by omega), w2_at, if_neg (by omega), w2_at]
      by_cases e : k = scn a
      · rw [if_pos (by omega), if_pos e]
      · rw [if_neg (by omega), if_neg e]
        exact s1 k (by omega)
    · intro k hk
      have hk : k < scn a + 1 := hk
      show (w2 (w2 (w2 μ 11 (3 * scn a) (nI c)) 11 (3 * scn a + 1) (nI (now a c))) 11 (3 * scn a + 2) (nI 0)).2 11 (3 * k + 1) = nI (if k = scn a then now a c else a 18 k 0 0)
      rw [w2_at, if_neg (by omega), w2_at]
      by_cases e : k = scn a
      · rw [if_pos (by omega), if_pos e]
      · rw [if_neg (by omega), if_neg e, w2_at, if_neg (by omega)]
        exact s2 k (by omega)
    · intro k hk
      have hk : k < scn a + 1 := hk
      show (w2 (w2 (w2 μ 11 (3 * scn a) (nI c)) 11 (3 * scn a + 1) (nI (now a c))) 11 (3 * scn a + 2) (nI 0)).2 11 (3 * k + 2) = nI (if k = scn a then 0 else a 19 k 0 0)
      rw [w2_at]
      by_cases e : k = scn a
      · rw [if_pos (by omega), if_pos e]
      · rw [if_neg (by omega), if_neg e, w2_at, if_neg (by omega), w2_at, if_neg (by omega)]
        exact s3 k (by omega)
  have hI2 := inv_says hI hc (by omega)
  exact pM_held hrep hI2.1 hI2.2.1 (k2 (by omega) t9 hrep)
theorem pM_isSafe {a : AS} {μ : St} (hI : Inv a) (h : RepM a μ) {k : Nat} (hk : k < scn a) {Φ : Int32 → St → Prop} (kk : Φ (b01 (safe a k)) μ) : wpX10_isSafe (nI k) μ Φ := by
  unfold wpX10_isSafe
  have hb := hI.1
  have hn := hb.1
  have hsc := hb.2.2.2.2.2.2.1
  have s9 := hI.2.1.2.2.2.2.2.2.2.1 k hk
  rw [nI_lit 3, mulI, nI_lit 2, addI, nI_lit 1, addI, rd_nI _ _ (by omega), rd_nI _ _ (by omega), rd_nI _ _ (by omega), h.2.2.2.2.1.2.1 k hk, h.2.2.2.2.1.2.2.1 k hk, h.2.2.2.2.1.2.2.2.1 k hk]
  refine ⟨pk_in (3 * k + 2) 90 (by omega), pk_eq (sst a k) 0 (fun q => ⟨pk_in (3 * k) 90 (by omega), pk_in (3 * k + 1) 90 (by omega), ?_⟩) (fun q => ?_)⟩
  · refine pM_isFirm h hb hI.2.1 (by omega) (hI.2.2.2.2.2.2.2.2.1 k hk q) (brB (fun z => ?_) (fun z => ?_))
    · rw [b01_f (fun y => z y.2)] at kk
      exact kk
    · rw [b01_t ⟨q, z⟩] at kk
      exact kk
  · rw [b01_f (fun y => q y.1)] at kk
    exact kk
