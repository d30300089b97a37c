theorem ix5 {p q d e : Nat} (hd : d < 5) (he : e < 5) (h : p ≠ q) : ¬ 5 * p + d = 5 * q + e := by omega
theorem ix5r {p q d : Nat} (hd : d < 5) (h : p ≠ q) : ¬ (5 * q ≤ 5 * p + d ∧ 5 * p + d < 5 * q + 5) := by omega
theorem ix24 {i j c k : Nat} (hj : j ≤ 23) (hk : k ≤ 23) (h : ¬ (i = c ∧ j = k)) : 24 * i + j ≠ 24 * c + k := by omega
/-- a page's rests copied from the page before it: j of them -/
def cpR (μ : St) (b j : Nat) : St := (μ.1, fun t => if t = 8 then (fun i => if b ≤ i ∧ i < b + j then μ.2 8 (i - 5) else μ.2 8 i) else if t = 9 then (fun i => if b ≤ i ∧ i < b + j then μ.2 9 (i - 5) else μ.2 9 i) else μ.2 t)
theorem cpR_0 (μ : St) (b : Nat) : cpR μ b 0 = μ := by
  refine Prod.ext rfl ?_
  funext t i
  simp only [cpR]
  by_cases h8 : t = 8
  · subst h8
    rw [if_pos rfl, if_neg (by omega)]
  · rw [if_neg h8]
    by_cases h9 : t = 9
    · subst h9
      rw [if_pos rfl, if_neg (by omega)]
    · rw [if_neg h9]
theorem cpR_step (μ : St) {b j : Nat} (hj : j < 5) (hb : 5 ≤ b) : w2 (w2 (cpR μ b j) 8 (b + j) ((cpR μ b j).2 8 (b + j - 5))) 9 (b + j) ((cpR μ b j).2 9 (b + j - 5)) = cpR μ b (j + 1) := by
  refine Prod.ext rfl ?_
  funext t i
  rw [w2_rd]
  by_cases h9 : t = 9
  · subst h9
    rw [if_pos rfl, w2_ne _ _ _ (by decide)]
    simp only [cpR, show (9 : Nat) = 8 ↔ False by decide, if_false, if_true]
    by_cases hi : i = b + j
    · subst hi
      rw [if_pos rfl, if_neg (by omega), if_pos (by omega)]
    · rw [if_neg hi]
      by_cases h1 : b ≤ i ∧ i < b + j
      · rw [if_pos h1, if_pos (by omega)]
      · rw [if_neg h1, if_neg (by omega)]
  · rw [if_neg h9, w2_rd]
    by_cases h8 : t = 8
    · subst h8
      rw [if_pos rfl]
      simp only [cpR, if_true]
      by_cases hi : i = b + j
      · subst hi
        rw [if_pos rfl, if_neg (by omega), if_pos (by omega)]
      · rw [if_neg hi]
        by_cases h1 : b ≤ i ∧ i < b + j
        · rw [if_pos h1, if_pos (by omega)]
        · rw [if_neg h1, if_neg (by omega)]
    · rw [if_neg h8]
      simp only [cpR, if_neg h8, if_neg h9]
/-- the state behind a new page k of c -/
def npM (μ : St) (c k : Nat) (l s : Int32) : St := w2 (w2 (w2 (w2 (w2 (cpR μ (5 * (24 * c + k)) 5) 8 (5 * (24 * c + k) + c) l) 9 (5 * (24 * c + k) + c) (nI k)) 6 (24 * c + k) l) 7 (24 * c + k) s) 2 c (nI k)
theorem lM_writesPage {μ : St} {c k l s x : Nat} (hc : c < 5) (hk0 : 1 ≤ k) (hk : k ≤ 23) (hl : μ.2 1 c = nI l) (hs : μ.2 7 (24 * c + k - 1) = nI s) (hs3 : s < 1000003) (hx3 : x < 1000003) {Φ : Int32 → St → Prop} (kk : Φ (nI k) (npM μ c k (nI l) (nI ((3 * s + x) % 1000003)))) :
    ∀ (N j : Nat), j ≤ 5 → 5 - j < N → wlX10_writesPage_21 Φ N (nI c) (nI x) (nI k) (nI j) (cpR μ (5 * (24 * c + k)) j) := by
  intro N
  induction N with
  | zero =>
    intro j h1 h2
    omega
  | succ N ih =>
    intro j hj hN
    show wlX10_writesPage_21_body Φ (wlX10_writesPage_21 Φ N) (nI c) (nI x) (nI k) (nI j) (cpR μ (5 * (24 * c + k)) j)
    unfold wlX10_writesPage_21_body wpX10_restOf wpX10_pageOf
    dsimp only
    rw [nI_lit 1, subI hk0, nI_lit 24, mulI, addI, addI, nI_lit 5, mulI, mulI, addI, addI, addI]
    refine pk_le 5 j (fun h1 => ?_) (fun h1 => ?_)
    · have e : j = 5 := by omega
      subst e
      refine ⟨pk_in c 5 hc, pk_in (5 * (24 * c + k) + c) 600 (by omega), fun t6 e6 => ⟨pk_in (5 * (24 * c + k) + c) 600 (by omega), fun t10 e10 => ⟨pk_in c 5 hc, pk_in (24 * c + k) 120 (by omega), fun t15 e15 => ⟨pk_in (24 * c + (k - 1)) 120 (by omega), pk_in (24 * c + k) 120 (by omega), fun t22 e22 => ⟨pk_in c 5 hc, fun t24 e24 => ?_⟩⟩⟩⟩⟩
      rw [rd_nI _ _ (by omega), wr_nI _ _ _ (by omega), show (cpR μ (5 * (24 * c + k)) 5).2 1 c = nI l from hl] at e6
      rw [wr_nI _ _ _ (by omega)] at e10
      rw [rd_nI _ _ (by omega), wr_nI _ _ _ (by omega)] at e15
      rw [rd_nI _ _ (by omega), wr_nI _ _ _ (by omega)] at e22
      rw [wr_nI _ _ _ (by omega)] at e24
      have f1 : t10.2 1 c = nI l := by rw [e10, e6]; exact hl
      have f2 : t15.2 7 (24 * c + (k - 1)) = nI s := by
        rw [e15, e10, e6, show 24 * c + (k - 1) = 24 * c + k - 1 by omega]
        exact hs
      rw [f1] at e15
      rw [f2, sumL hs3 hx3] at e22
      rw [e24, e22, e15, e10, e6]
      exact kk
    · refine ⟨pk_in (5 * (24 * c + (k - 1)) + j) 600 (by omega), pk_in (5 * (24 * c + k) + j) 600 (by omega), fun t31 e31 => ⟨pk_in (5 * (24 * c + (k - 1)) + j) 600 (by omega), pk_in (5 * (24 * c + k) + j) 600 (by omega), fun t38 e38 y ey => ?_⟩⟩
      rw [rd_nI _ _ (by omega), wr_nI _ _ _ (by omega)] at e31
      rw [rd_nI _ _ (by omega), wr_nI _ _ _ (by omega), e31, w2_ne _ _ _ (by decide)] at e38
      rw [show 5 * (24 * c + (k - 1)) + j = 5 * (24 * c + k) + j - 5 by omega, cpR_step μ (by omega) (by omega)] at e38
      rw [e38, ey, addI]
      exact ih (j + 1) (by omega) (by omega)
theorem npM_rep {a : AS} {μ : St} (h : RepM a μ) (hb : Bd a) {c x : Nat} (hc : c < 5) (hnow : now a c < 23) : RepM (addA a c x) (npM μ c (now a c + 1) (nI (life a c)) (nI ((3 * pgs a c (now a c) + x) % 1000003))) := by
  obtain ⟨⟨g0, g1, g2, g3, g4⟩, h2, ⟨p1, p2, p3, p4⟩, h4, h5, h6, h7⟩ := h
  have hbn := hb.2.1
  obtain ⟨k, ek⟩ : ∃ k, k = now a c + 1 := ⟨_, rfl⟩
  have hnow' : ∀ i, now (addA a c x) i = if i = c then k else now a i := by
    intro i
    show (if i = c then now a c + 1 else a 2 i 0 0) = _
    rw [ek]
  rw [← ek]
  refine ⟨⟨g0, g1, ?_, g3, g4⟩, h2, ⟨?_, ?_, ?_, ?_⟩, h4, h5, h6, h7⟩
  · intro i hi
    unfold npM
    rw [w2_at, hnow']
    by_cases e : i = c
    · rw [if_pos e, if_pos e]
    · rw [if_neg e, if_neg e]
      exact g2 i hi
  · intro i hi j hj
    rw [hnow'] at hj
    have h23 := hbn i hi
    show (npM μ c k _ _).2 6 (24 * i + j) = nI (if i = c ∧ j = now a c + 1 then life a c else a 6 i j 0)
    unfold npM
    rw [w2_ne _ _ _ (by decide), w2_ne _ _ _ (by decide), w2_at, w2_ne _ _ _ (by decide), w2_ne _ _ _ (by decide), ← ek]
    by_cases e : i = c ∧ j = k
    · rw [if_pos (by omega), if_pos e]
    · have hj2 : j ≤ now a i := by
        by_cases e2 : i = c
        · rw [if_pos e2] at hj
          rw [e2]
          omega
        · rw [if_neg e2] at hj
          exact hj
      have hcb := hbn c hc
      rw [if_neg (by omega), if_neg e]
      exact p1 i hi j hj2
  · intro i hi j hj
    rw [hnow'] at hj
    have h23 := hbn i hi
    show (npM μ c k _ _).2 7 (24 * i + j) = nI (if i = c ∧ j = now a c + 1 then (3 * pgs a c (now a c) + x) % 1000003 else a 7 i j 0)
    unfold npM
    rw [w2_ne _ _ _ (by decide), w2_at, w2_ne _ _ _ (by decide), w2_ne _ _ _ (by decide), w2_ne _ _ _ (by decide), ← ek]
    by_cases e : i = c ∧ j = k
    · rw [if_pos (by omega), if_pos e]
    · have hj2 : j ≤ now a i := by
        by_cases e2 : i = c
        · rw [if_pos e2] at hj
          rw [e2]
          omega
        · rw [if_neg e2] at hj
          exact hj
      have hcb := hbn c hc
      rw [if_neg (by omega), if_neg e]
      exact p2 i hi j hj2
  · intro i hi j hj d hd
    rw [hnow'] at hj
    have h23 := hbn i hi
    show (npM μ c k _ _).2 8 (5 * (24 * i + j) + d) = nI (if i = c ∧ j = now a c + 1 then (if d = c then life a c else rsl a c (now a c) d) else a 8 i j d)
    unfold npM
    rw [w2_ne _ _ _ (by decide), w2_ne _ _ _ (by decide), w2_ne _ _ _ (by decide), w2_ne _ _ _ (by decide), w2_at, ← ek]
    have hcb := hbn c hc
    by_cases e : i = c ∧ j = k
    · obtain ⟨rfl, rfl⟩ := e
      rw [if_pos (c := i = i ∧ j = j) ⟨rfl, rfl⟩]
      by_cases ed : d = i
      · rw [if_pos (by omega), if_pos ed]
      · rw [if_neg (by omega), if_neg ed]
        show (if 5 * (24 * i + j) ≤ 5 * (24 * i + j) + d ∧ 5 * (24 * i + j) + d < 5 * (24 * i + j) + 5 then μ.2 8 (5 * (24 * i + j) + d - 5) else μ.2 8 (5 * (24 * i + j) + d)) = _
        rw [if_pos (by omega), show 5 * (24 * i + j) + d - 5 = 5 * (24 * i + now a i) + d by omega]
        exact p3 i hi _ (Nat.le_refl _) d hd
    · have hj2 : j ≤ now a i := by
        by_cases e2 : i = c
        · rw [if_pos e2] at hj
          rw [e2]
          omega
        · rw [if_neg e2] at hj
          exact hj
      have hne : 24 * i + j ≠ 24 * c + k := ix24 (by omega) (by omega) e
      rw [if_neg (ix5 hd hc hne), if_neg e]
      show (if 5 * (24 * c + k) ≤ 5 * (24 * i + j) + d ∧ 5 * (24 * i + j) + d < 5 * (24 * c + k) + 5 then μ.2 8 (5 * (24 * i + j) + d - 5) else μ.2 8 (5 * (24 * i + j) + d)) = _
      rw [if_neg (ix5r hd hne)]
      exact p3 i hi j hj2 d hd
  · intro i hi j hj d hd
    rw [hnow'] at hj
    have h23 := hbn i hi
    show (npM μ c k _ _).2 9 (5 * (24 * i + j) + d) = nI (if i = c ∧ j = now a c + 1 then (if d = c then now a c + 1 else rsp a c (now a c) d) else a 9 i j d)
    unfold npM
    rw [w2_ne _ _ _ (by decide), w2_ne _ _ _ (by decide), w2_ne _ _ _ (by decide), w2_at, w2_ne _ _ _ (by decide), ← ek]
    have hcb := hbn c hc
    by_cases e : i = c ∧ j = k
    · obtain ⟨rfl, rfl⟩ := e
      rw [if_pos (c := i = i ∧ j = j) ⟨rfl, rfl⟩]
      by_cases ed : d = i
      · rw [if_pos (by omega), if_pos ed]
      · rw [if_neg (by omega), if_neg ed]
        show (if 5 * (24 * i + j) ≤ 5 * (24 * i + j) + d ∧ 5 * (24 * i + j) + d < 5 * (24 * i + j) + 5 then μ.2 9 (5 * (24 * i + j) + d - 5) else μ.2 9 (5 * (24 * i + j) + d)) = _
        rw [if_pos (by omega), show 5 * (24 * i + j) + d - 5 = 5 * (24 * i + now a i) + d by omega]
        exact p4 i hi _ (Nat.le_refl _) d hd
    · have hj2 : j ≤ now a i := by
        by_cases e2 : i = c
        · rw [if_pos e2] at hj
          rw [e2]
          omega
        · rw [if_neg e2] at hj
          exact hj
      have hne : 24 * i + j ≠ 24 * c + k := ix24 (by omega) (by omega) e
      rw [if_neg (ix5 hd hc hne), if_neg e]
      show (if 5 * (24 * c + k) ≤ 5 * (24 * i + j) + d ∧ 5 * (24 * i + j) + d < 5 * (24 * c + k) + 5 then μ.2 9 (5 * (24 * i + j) + d - 5) else μ.2 9 (5 * (24 * i + j) + d)) = _
      rw [if_neg (ix5r hd hne)]
      exact p4 i hi j hj2 d hd
theorem pM_writesPage {a : AS} {μ : St} (h : RepM a μ) (hb : Bd a) (hs : Sm a) {c x : Nat} (hc : c < 5) (hx : x < 1000003) {Φ : Int32 → St → Prop} (k1 : now a c = 23 → Φ (-4) μ) (k2 : now a c < 23 → ∀ μ', RepM (addA a c x) μ' → Φ (nI (now a c + 1)) μ') : wpX10_writesPage (nI c) (nI x) μ Φ := by
  unfold wpX10_writesPage
  have h23 := hb.2.1 c hc
  refine ⟨pk_in c 5 hc, fun y ey => ?_⟩
  rw [rd_nI _ _ (by omega), h.1.2.2.1 c hc, nI_1] at ey
  rw [ey]
  refine pk_eq (now a c + 1) 24 (fun h1 => k1 (by omega)) (fun h1 => ?_)
  have lp := lM_writesPage (μ := μ) (c := c) (k := now a c + 1) (l := life a c) (s := pgs a c (now a c)) (x := x) hc (by omega) (by omega) (h.1.2.1 c hc) (h.2.2.1.2.1 c hc _ (Nat.le_refl _)) (hs.1 c hc _ (Nat.le_refl _)) hx (Φ := Φ) (k2 (by omega) _ (npM_rep h hb hc (by omega))) 6 0 (by decide) (by decide)
  rw [cpR_0] at lp
  exact ⟨6, lp⟩
