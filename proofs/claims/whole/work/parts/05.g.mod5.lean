theorem comeB_now (a : AS) (d m b : Nat) : now (comeB a d m b) d = now a d + 1 := by
  show (if d = d then now a d + 1 else _) = _
  rw [if_pos rfl]
theorem comeB_at (a : AS) {d m b : Nat} (h : b ≠ d) : (comeB a d m b) 8 d (now a d + 1) b = rsl a d (now a d) b ∧ (comeB a d m b) 9 d (now a d + 1) b = rsp a d (now a d) b := by
  rw [comeB_8, comeB_9, if_neg (by rintro ⟨-, -, h, -⟩; omega), if_neg (by rintro ⟨-, -, h, -⟩; omega)]
  constructor
  · show (if d = d ∧ now a d + 1 = now a d + 1 then (if b = d then _ else _) else _) = _
    rw [if_pos ⟨rfl, rfl⟩, if_neg h]
  · show (if d = d ∧ now a d + 1 = now a d + 1 then (if b = d then _ else _) else _) = _
    rw [if_pos ⟨rfl, rfl⟩, if_neg h]
theorem comeB_own (a : AS) (d m : Nat) : (comeB a d m d) 8 d (now a d + 1) d = life a d ∧ (comeB a d m d) 9 d (now a d + 1) d = now a d + 1 := by
  rw [comeB_8, comeB_9, if_neg (by rintro ⟨-, -, h, -⟩; omega), if_neg (by rintro ⟨-, -, h, -⟩; omega)]
  constructor
  · show (if d = d ∧ now a d + 1 = now a d + 1 then (if d = d then _ else _) else _) = _
    rw [if_pos ⟨rfl, rfl⟩, if_pos rfl]
  · show (if d = d ∧ now a d + 1 = now a d + 1 then (if d = d then _ else _) else _) = _
    rw [if_pos ⟨rfl, rfl⟩, if_pos rfl]
theorem comeM_new {a : AS} {t : St} {d m b : Nat} (hb : Bd a) (hd : d < 5) (hnow : now a d < 23) (hbn : b < 5) (h1 : b ≠ d) (h2 : later (lrl a m b) (lrp a m b) (rsl a d (now a d) b) (rsp a d (now a d) b)) (h : RepM (comeB a d m b) t) : RepM (comeB a d m (b + 1)) (w2 (w2 t 8 (5 * (24 * d + (now a d + 1)) + b) (nI (lrl a m b))) 9 (5 * (24 * d + (now a d + 1)) + b) (nI (lrp a m b))) := by
  obtain ⟨g1, g2, ⟨p1, p2, p3, p4⟩, g4, g5, g6, g7⟩ := h
  have hn23 : ∀ i, i < 5 → now (comeB a d m b) i ≤ 23 := by
    intro i hi
    show (if i = d then now a d + 1 else a 2 i 0 0) ≤ 23
    by_cases e : i = d
    · rw [if_pos e]
      omega
    · rw [if_neg e]
      exact hb.2.1 i hi
  refine ⟨g1, g2, ⟨p1, p2, ?_, ?_⟩, g4, g5, g6, g7⟩
  · intro i hi j hj e he
    have hj : j ≤ now (comeB a d m b) i := hj
    have hj23 := hn23 i hi
    show _ = nI ((comeB a d m (b + 1)) 8 i j e)
    rw [(comeB_new h1 h2 i j e).1, w2_ne _ _ _ (by decide), w2_at]
    by_cases q : i = d ∧ j = now a d + 1 ∧ e = b
    · rw [if_pos q, if_pos (by rw [q.1, q.2.1, q.2.2])]
    · rw [if_neg q]
      by_cases q2 : i = d ∧ j = now a d + 1
      · rw [if_neg (by rw [q2.1, q2.2]; omega)]
        exact p3 i hi j hj e he
      · rw [if_neg (ix5 he hbn (ix24 (by omega) (by omega) q2))]
        exact p3 i hi j hj e he
  · intro i hi j hj e he
    have hj : j ≤ now (comeB a d m b) i := hj
    have hj23 := hn23 i hi
    show _ = nI ((comeB a d m (b + 1)) 9 i j e)
    rw [(comeB_new h1 h2 i j e).2, w2_at, w2_ne _ _ _ (by decide)]
    by_cases q : i = d ∧ j = now a d + 1 ∧ e = b
    · rw [if_pos q, if_pos (by rw [q.1, q.2.1, q.2.2])]
    · rw [if_neg q]
      by_cases q2 : i = d ∧ j = now a d + 1
      · rw [if_neg (by rw [q2.1, q2.2]; omega)]
        exact p4 i hi j hj e he
      · rw [if_neg (ix5 he hbn (ix24 (by omega) (by omega) q2))]
        exact p4 i hi j hj e he
theorem lM_gets {a : AS} (hb : Bd a) (hs : Sm a) {d m : Nat} (hd : d < nA a) (hm : m < lcn a) (hnow : now a d < 23) {Φ : Int32 → St → Prop} (kk : ∀ μ', RepM (takeA (comeB a d m (nA a)) m) μ' → Φ (nI (now a d + 1)) μ') :
    ∀ (N i : Nat) (t : St), i ≤ nA a → nA a - i < N → RepM (comeB a d m i) t → wlX10_gets_61 Φ N (nI d) (nI m) (nI (now a d + 1)) (nI i) t := by
  have hn := hb.1
  have hlc := hb.2.2.2.2.2.1
  have hd5 : d < 5 := by omega
  intro N
  induction N with
  | zero =>
    intro i t h1 h2
    omega
  | succ N ih =>
    intro i t hi hN h
    show wlX10_gets_61_body Φ (wlX10_gets_61 Φ N) (nI d) (nI m) (nI (now a d + 1)) (nI i) t
    unfold wlX10_gets_61_body wpX10_restOf wpX10_pageOf
    dsimp only
    rw [show t.1 0 = nI (nA a) from h.1.1]
    refine pk_le (nA a) i (fun h1 => ?_) (fun h1 => ?_)
    · have e : i = nA a := by omega
      subst e
      exact pM_takeLetter h hlc hm kk
    · have e1 : t.2 10 (13 * m + 3 + i) = nI (lrl a m i) := h.2.2.2.1.2.2.2.2.1 m hm i (by omega)
      have e2 : t.2 10 (13 * m + 8 + i) = nI (lrp a m i) := h.2.2.2.1.2.2.2.2.2 m hm i (by omega)
      have s1 := hs.2.2.2.1 m hm i (by omega)
      have hle : now a d + 1 ≤ now (comeB a d m i) d := by rw [comeB_now]; exact Nat.le_refl _
      have e3 := h.2.2.1.2.2.1 d hd5 (now a d + 1) hle i (by omega)
      have e4 := h.2.2.1.2.2.2 d hd5 (now a d + 1) hle i (by omega)
      have e3 : t.2 8 (5 * (24 * d + (now a d + 1)) + i) = nI ((comeB a d m i) 8 d (now a d + 1) i) := e3
      have e4 : t.2 9 (5 * (24 * d + (now a d + 1)) + i) = nI ((comeB a d m i) 9 d (now a d + 1) i) := e4
      obtain ⟨A8, hA8⟩ : ∃ z, z = (comeB a d m i) 8 d (now a d + 1) i := ⟨_, rfl⟩
      obtain ⟨A9, hA9⟩ : ∃ z, z = (comeB a d m i) 9 d (now a d + 1) i := ⟨_, rfl⟩
      rw [← hA8] at e3
      rw [← hA9] at e4
      have hbd : A8 ≤ 60 ∧ A9 ≤ 24 := by
        by_cases e : i = d
        · subst e
          rw [hA8, hA9, (comeB_own a i m).1, (comeB_own a i m).2]
          exact ⟨hb.2.2.2.2.1 i hd5, by omega⟩
        · rw [hA8, hA9, (comeB_at a e).1, (comeB_at a e).2]
          have := hs.2.2.1 d hd5 (now a d) (Nat.le_refl _) i (by omega)
          omega
      have skip : i = d ∨ ¬ later (lrl a m i) (lrp a m i) (rsl a d (now a d) i) (rsp a d (now a d) i) → wlX10_gets_61 Φ N (nI d) (nI m) (nI (now a d + 1)) (nI (i + 1)) t := by
        intro q
        refine ih (i + 1) t (by omega) (by omega) ?_
        rw [comeB_skip q]
        exact h
      have b154 : ∀ z : Int32, (i ≠ d → z = 0 → ¬ later (lrl a m i) (lrp a m i) (rsl a d (now a d) i) (rsp a d (now a d) i)) → (i ≠ d → z ≠ 0 → later (lrl a m i) (lrp a m i) (rsl a d (now a d) i) (rsp a d (now a d) i)) → wbX10_gets_154 Φ (wlX10_gets_61 Φ N) (nI d) (nI m) (nI (now a d + 1)) (nI i) (nI (5 * (24 * d + (now a d + 1)) + i)) (nI (lrl a m i)) (nI (lrp a m i)) z t := by
        intro z z1 z2
        unfold wbX10_gets_154 wbX10_gets_185
        refine pk_eq i d (fun e y ey => ?_) (fun e => ⟨fun e0 y ey => ?_, fun e0 => ⟨pk_in (5 * (24 * d + (now a d + 1)) + i) 600 (by omega), fun t4 et4 => ⟨pk_in (5 * (24 * d + (now a d + 1)) + i) 600 (by omega), fun t6 et6 y ey => ?_⟩⟩⟩)
        · rw [ey, nI_1]
          exact skip (Or.inl e)
        · rw [ey, nI_1]
          exact skip (Or.inr (z1 e e0))
        · rw [wr_nI _ _ _ (by omega)] at et4 et6
          rw [ey, nI_1, et6, et4]
          exact ih (i + 1) _ (by omega) (by omega) (comeM_new hb hd5 hnow (by omega) e (z2 e e0) h)
      rw [nI_lit 24, mulI, addI, nI_lit 5, mulI, addI, nI_lit 13, mulI, nI_lit 3, addI, addI, nI_lit 8, addI, addI]
      rw [rd_nI t 10 (by omega), rd_nI t 10 (by omega), e1, e2]
      refine ⟨pk_in (13 * m + 3 + i) 520 (by omega), fun y6 ey6 => ⟨pk_in (13 * m + 8 + i) 520 (by omega), fun y8 ey8 => ⟨pk_in (5 * (24 * d + (now a d + 1)) + i) 600 (by omega), ?_⟩⟩⟩
      rw [ey6, ey8, rd_nI t 8 (by omega), rd_nI t 9 (by omega), e3, e4]
      have hat : i ≠ d → A8 = rsl a d (now a d) i ∧ A9 = rsp a d (now a d) i := fun e => ⟨by rw [hA8]; exact (comeB_at a e).1, by rw [hA9]; exact (comeB_at a e).2⟩
      refine pk_lt A8 (lrl a m i) (fun q => ?_) (fun q => ⟨pk_in (5 * (24 * d + (now a d + 1)) + i) 600 (by omega), pk_eq (lrl a m i) A8 (fun q2 => ⟨pk_in (5 * (24 * d + (now a d + 1)) + i) 600 (by omega), pk_le (lrp a m i) A9 (fun q3 => ?_) (fun q3 => ?_)⟩) (fun q2 => ?_)⟩)
      · refine b154 1 (fun _ e0 => absurd e0 (by decide)) (fun e _ => Or.inl ?_)
        rw [← (hat e).1]
        exact q
      · refine b154 0 (fun e _ hl => ?_) (fun _ e0 => absurd rfl e0)
        have := hat e
        rcases hl with hl | hl <;> omega
      · refine b154 1 (fun _ e0 => absurd e0 (by decide)) (fun e _ => Or.inr ?_)
        rw [← (hat e).1, ← (hat e).2]
        exact ⟨q2, q3⟩
      · refine b154 0 (fun e _ hl => ?_) (fun _ e0 => absurd rfl e0)
        have := hat e
        rcases hl with hl | hl <;> omega
theorem pM_gets {a : AS} {μ : St} (h : RepM a μ) (hb : Bd a) (hs : Sm a) {d k : Nat} (hd : d < nA a) (hk : k < 2 ^ 31) {Φ : Int32 → St → Prop} (k1 : (∀ m, ¬ isNth a d k m) → Φ (-3) μ) (k2 : ∀ m, isNth a d k m → deadL a m → ∀ μ', RepM (takeA a m) μ' → Φ (-1) μ') (k3 : ∀ m, isNth a d k m → ¬ deadL a m → now a d = 23 → Φ (-4) μ) (k4 : ∀ m, isNth a d k m → ¬ deadL a m → now a d < 23 → ∀ μ', RepM (takeA (comeB a d m (nA a)) m) μ' → Φ (nI (now a d + 1)) μ') : wpX10_gets (nI d) (nI k) μ Φ := by
  unfold wpX10_gets
  have hn := hb.1
  have hlc := hb.2.2.2.2.2.1
  refine pM_letterAt h hb hs (by omega) hk (fun m hm => ?_) (fun hno => ⟨fun _ => k1 hno, fun e => absurd rfl e⟩)
  have hml := hm.1
  refine ⟨fun e => ?_, fun _ => ?_⟩
  · rw [neI1 (by omega)] at e
    exact e.elim
  · refine pM_isDeadLetter h hb hs hml (brB (fun hl => ?_) (fun hl => ?_))
    · rw [nI_lit 13, mulI, nI_lit 2, addI, rd_nI _ _ (by omega), h.2.2.2.1.2.2.2.1 m hml]
      refine ⟨pk_in (13 * m + 2) 520 (by omega), ?_⟩
      refine pM_writesPage h hb hs (by omega) (hs.2.1 m hml) (fun e => ⟨fun _ => k3 m hm hl e, fun q => absurd rfl q⟩) (fun e μ' hμ => ⟨fun q => ?_, fun _ => ⟨nA a + 1, ?_⟩⟩)
      · rw [neI4 (by omega)] at q
        exact q.elim
      · refine lM_gets hb hs hd hml e (k4 m hm hl e) (nA a + 1) 0 μ' (Nat.zero_le _) (by omega) ?_
        rw [comeB_0]
        exact hμ
    · exact pM_takeLetter h hlc hml (k2 m hm hl)
theorem lM_begins2 {μ : St} {c : Nat} (hc : c < 5) {Φ : St → Prop} {K : Int32 → St → Prop} (kk : ∀ t : St, t.1 = μ.1 → (∀ b, b ≠ 8 → b ≠ 9 → t.2 b = μ.2 b) → (∀ j, (j < 120 * c ∨ 120 * c + 5 ≤ j) → t.2 8 j = μ.2 8 j ∧ t.2 9 j = μ.2 9 j) → (∀ e, e < 5 → t.2 8 (120 * c + e) = 0 ∧ t.2 9 (120 * c + e) = 0) → K (nI (c + 1)) t) :
    ∀ (N d : Nat) (t : St), d ≤ 5 → 5 - d < N → t.1 = μ.1 → (∀ b, b ≠ 8 → b ≠ 9 → t.2 b = μ.2 b) → (∀ j, (j < 120 * c ∨ 120 * c + 5 ≤ j) → t.2 8 j = μ.2 8 j ∧ t.2 9 j = μ.2 9 j) → (∀ e, e < d → t.2 8 (120 * c + e) = 0 ∧ t.2 9 (120 * c + e) = 0) → wlX10_begins_59 Φ K N (nI c) (nI d) t := by
  intro N
  induction N with
  | zero =>
    intro d t h1 h2
    omega
  | succ N ih =>
    intro d t hd hN e1 e2 e3 e4
    show wlX10_begins_59_body Φ K (wlX10_begins_59 Φ K N) (nI c) (nI d) t
    unfold wlX10_begins_59_body wpX10_restOf wpX10_pageOf
    dsimp only
    rw [nI_lit 24, mulI, nI_lit 0, addI, nI_lit 5, mulI, addI]
    refine pk_le 5 d (fun h1 => ?_) (fun h1 => ?_)
    · intro y ey
      rw [ey, nI_1]
      have : d = 5 := by omega
      subst this
      exact kk t e1 e2 e3 e4
    · refine ⟨pk_in (5 * (24 * c + 0) + d) 600 (by omega), fun t6 e6 => ⟨pk_in (5 * (24 * c + 0) + d) 600 (by omega), fun t10 e10 y ey => ?_⟩⟩
      rw [wr_nI _ _ _ (by omega)] at e6 e10
      rw [ey, nI_1, e10, e6]
      refine ih (d + 1) _ (by omega) (by omega) e1 (fun b h8 h9 => ?_) (fun j hj => ?_) (fun e he => ?_)
      · rw [w2_ne _ _ _ h9, w2_ne _ _ _ h8]
        exact e2 b h8 h9
      · rw [w2_ne _ _ _ (show (8 : Nat) ≠ 9 by decide), w2_at, if_neg (by omega), w2_at, if_neg (by omega), w2_ne _ _ _ (show (9 : Nat) ≠ 8 by decide)]
        exact e3 j hj
      · rw [w2_ne _ _ _ (show (8 : Nat) ≠ 9 by decide), w2_at, w2_at, w2_ne _ _ _ (show (9 : Nat) ≠ 8 by decide)]
        by_cases q : e = d
        · rw [if_pos (by omega), if_pos (by omega)]
          exact ⟨rfl, rfl⟩
        · rw [if_neg (by omega), if_neg (by omega)]
          exact e4 e (by omega)
theorem lM_begins {μ : St} {Φ : St → Prop} (kk : ∀ t : St, t.1 11 = 0 → t.1 13 = 0 → t.1 15 = 0 → t.1 16 = 0 → (∀ j, j ≠ 11 → j ≠ 13 → j ≠ 15 → j ≠ 16 → t.1 j = μ.1 j) → (∀ b, 10 ≤ b → t.2 b = μ.2 b) → (∀ c, c < 5 → t.2 1 c = 0 ∧ t.2 2 c = 0 ∧ t.2 3 c = 0 ∧ t.2 4 c = 0 ∧ t.2 6 (24 * c) = 0 ∧ t.2 7 (24 * c) = 0 ∧ ∀ e, e < 5 → t.2 8 (120 * c + e) = 0 ∧ t.2 9 (120 * c + e) = 0) → Φ t) :
    ∀ (N c : Nat) (t : St), c ≤ 5 → 5 - c < N → t.1 = μ.1 → (∀ b, 10 ≤ b → t.2 b = μ.2 b) → (∀ c', c' < c → t.2 1 c' = 0 ∧ t.2 2 c' = 0 ∧ t.2 3 c' = 0 ∧ t.2 4 c' = 0 ∧ t.2 6 (24 * c') = 0 ∧ t.2 7 (24 * c') = 0 ∧ ∀ e, e < 5 → t.2 8 (120 * c' + e) = 0 ∧ t.2 9 (120 * c' + e) = 0) → wlX10_begins_2 Φ N (nI c) t := by
  intro N
  induction N with
  | zero =>
    intro c t h1 h2
    omega
  | succ N ih =>
    intro c t hc hN e1 e2 e3
    show wlX10_begins_2_body Φ (wlX10_begins_2 Φ N) (nI c) t
    unfold wlX10_begins_2_body wpX10_pageOf
    dsimp only
    refine pk_le 5 c (fun h1 => ?_) (fun h1 => ?_)
    · intro t2 q2 t3 q3 t4 q4 t5 q5
      have hc5 : c = 5 := by omega
      subst hc5
      subst q5
      subst q4
      subst q3
      subst q2
      refine kk _ rfl rfl rfl rfl (fun j a1 a2 a3 a4 => ?_) e2 e3
      rw [setI_1, if_neg a4, setI_1, if_neg a3, setI_1, if_neg a2, setI_1, if_neg a1, e1]
    · rw [nI_lit 24, mulI, nI_lit 0, addI]
      refine ⟨pk_in c 5 (by omega), fun t7 q7 => ⟨pk_in c 5 (by omega), fun t9 q9 => ⟨pk_in c 5 (by omega), fun t11 q11 => ⟨pk_in c 5 (by omega), fun t13 q13 => ⟨pk_in (24 * c + 0) 120 (by omega), fun t17 q17 => ⟨pk_in (24 * c + 0) 120 (by omega), fun t21 q21 => ⟨6, ?_⟩⟩⟩⟩⟩⟩⟩
      rw [wr_nI _ _ _ (by omega)] at q7 q9 q11 q13 q17 q21
      have f1 : t21.1 = t.1 := by rw [q21, q17, q13, q11, q9, q7]; rfl
      have f8 : t21.2 8 = t.2 8 := by rw [q21, q17, q13, q11, q9, q7]; rfl
      have f9 : t21.2 9 = t.2 9 := by rw [q21, q17, q13, q11, q9, q7]; rfl
      have fb : ∀ b, 10 ≤ b → t21.2 b = t.2 b := by
        intro b hb
        rw [q21, q17, q13, q11, q9, q7, w2_ne _ _ _ (by omega), w2_ne _ _ _ (by omega), w2_ne _ _ _ (by omega), w2_ne _ _ _ (by omega), w2_ne _ _ _ (by omega), w2_ne _ _ _ (by omega)]
      have g1 : ∀ i, t21.2 1 i = if i = c then 0 else t.2 1 i := by intro i; rw [q21, q17, q13, q11, q9, q7, w2_ne _ _ _ (by decide), w2_ne _ _ _ (by decide), w2_ne _ _ _ (by decide), w2_ne _ _ _ (by decide), w2_ne _ _ _ (by decide), w2_at]; rfl
      have g2 : ∀ i, t21.2 2 i = if i = c then 0 else t.2 2 i := by intro i; rw [q21, q17, q13, q11, q9, q7, w2_ne _ _ _ (by decide), w2_ne _ _ _ (by decide), w2_ne _ _ _ (by decide), w2_ne _ _ _ (by decide), w2_at]; rfl
      have g3 : ∀ i, t21.2 3 i = if i = c then 0 else t.2 3 i := by intro i; rw [q21, q17, q13, q11, q9, q7, w2_ne _ _ _ (by decide), w2_ne _ _ _ (by decide), w2_ne _ _ _ (by decide), w2_at]; rfl
      have g4 : ∀ i, t21.2 4 i = if i = c then 0 else t.2 4 i := by intro i; rw [q21, q17, q13, q11, q9, q7, w2_ne _ _ _ (by decide), w2_ne _ _ _ (by decide), w2_at]; rfl
      have g6 : ∀ i, t21.2 6 i = if i = 24 * c + 0 then 0 else t.2 6 i := by intro i; rw [q21, q17, q13, q11, q9, q7, w2_ne _ _ _ (by decide), w2_at]; rfl
      have g7 : ∀ i, t21.2 7 i = if i = 24 * c + 0 then 0 else t.2 7 i := by intro i; rw [q21, q17, q13, q11, q9, q7]; exact w2_at _ _ _ _ _
      refine lM_begins2 (μ := t21) (c := c) (by omega) (fun t' k1 k2 k3 k4 => ?_) 6 0 t21 (by decide) (by decide) rfl (fun b _ _ => rfl) (fun j _ => ⟨rfl, rfl⟩) (fun e he => absurd he (Nat.not_lt_zero e))
      refine ih (c + 1) t' (by omega) (by omega) (by rw [k1, f1, e1]) (fun b hb => by rw [k2 b (by omega) (by omega), fb b hb, e2 b hb]) (fun c' hc' => ?_)
      rw [k2 1 (by decide) (by decide), k2 2 (by decide) (by decide), k2 3 (by decide) (by decide), k2 4 (by decide) (by decide), k2 6 (by decide) (by decide), k2 7 (by decide) (by decide), g1, g2, g3, g4, g6, g7]
      by_cases e : c' = c
      · subst e
        rw [if_pos rfl, if_pos rfl, if_pos rfl, if_pos rfl, if_pos (by omega), if_pos (by omega)]
        exact ⟨rfl, rfl, rfl, rfl, rfl, rfl, k4⟩
      · have o := e3 c' (by omega)
        rw [if_neg e, if_neg e, if_neg e, if_neg e, if_neg (by omega), if_neg (by omega)]
        refine ⟨o.1, o.2.1, o.2.2.1, o.2.2.2.1, o.2.2.2.2.1, o.2.2.2.2.2.1, fun z hz => ?_⟩
        have := k3 (120 * c' + z) (by omega)
        rw [this.1, this.2, f8, f9]
        exact o.2.2.2.2.2.2 z hz
/-- the reference begins anew; n has been set -/
theorem pM_begins {a : AS} {μ : St} {v : Nat} (hn : μ.1 0 = nI v) (h6 : μ.2 13 0 = nI (bdn a) ∧ μ.2 13 1 = nI (non a) ∧ μ.2 13 2 = nI (fln a)) (h7 : M7 a μ) {Φ : St → Prop} (kk : ∀ μ', RepM (beginA a v) μ' → Φ μ') : wpX10_begins μ Φ := by
  unfold wpX10_begins
  refine ⟨6, lM_begins (μ := μ) (fun t a1 a2 a3 a4 a5 a6 a7 => kk t ?_) 6 0 μ (by decide) (by decide) rfl (fun b _ => rfl) (fun c hc => absurd hc (Nat.not_lt_zero c))⟩
  refine ⟨⟨?_, fun c hc => (a7 c hc).1, fun c hc => (a7 c hc).2.1, fun c hc => (a7 c hc).2.2.1, fun c hc => (a7 c hc).2.2.2.1⟩, fun c hc l hl => absurd hl (Nat.not_lt_zero l), ⟨?_, ?_, ?_, ?_⟩, ⟨a1, fun m hm => absurd hm (Nat.not_lt_zero m), fun m hm => absurd hm (Nat.not_lt_zero m), fun m hm => absurd hm (Nat.not_lt_zero m), fun m hm => absurd hm (Nat.not_lt_zero m), fun m hm => absurd hm (Nat.not_lt_zero m)⟩, ⟨a2, fun m hm => absurd hm (Nat.not_lt_zero m), fun m hm => absurd hm (Nat.not_lt_zero m), fun m hm => absurd hm (Nat.not_lt_zero m), a3, fun m hm => absurd hm (Nat.not_lt_zero m)⟩, ⟨a4, ?_, ?_, ?_⟩, ⟨?_, ?_, ?_⟩⟩
  · rw [a5 0 (by decide) (by decide) (by decide) (by decide)]; exact hn
  · intro c hc k hk
    have hk0 : k = 0 := Nat.le_zero.mp hk
    subst hk0
    exact (a7 c hc).2.2.2.2.1
  · intro c hc k hk
    have hk0 : k = 0 := Nat.le_zero.mp hk
    subst hk0
    exact (a7 c hc).2.2.2.2.2.1
  · intro c hc k hk d hd
    have hk0 : k = 0 := Nat.le_zero.mp hk
    subst hk0
    rw [show 5 * (24 * c + 0) + d = 120 * c + d by omega]
    exact ((a7 c hc).2.2.2.2.2.2 d hd).1
  · intro c hc k hk d hd
    have hk0 : k = 0 := Nat.le_zero.mp hk
    subst hk0
    rw [show 5 * (24 * c + 0) + d = 120 * c + d by omega]
    exact ((a7 c hc).2.2.2.2.2.2 d hd).2
  · rw [a6 13 (by decide)]; exact h6.1
  · rw [a6 13 (by decide)]; exact h6.2.1
  · rw [a6 13 (by decide)]; exact h6.2.2
  · rw [a5 22 (by decide) (by decide) (by decide) (by decide)]; exact h7.1
  · rw [a6 15 (by decide)]; exact h7.2.1
  · rw [a5 23 (by decide) (by decide) (by decide) (by decide)]; exact h7.2.2
