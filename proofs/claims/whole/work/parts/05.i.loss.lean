/-- light bounds, in the midst of a loss too -/
def Bl (a : AS) : Prop := nA a ≤ 5 ∧ (∀ c, c < 5 → now a c ≤ 23) ∧ (∀ c, c < 5 → life a c ≤ 100) ∧ (∀ c, c < 5 → ∀ l, l < life a c → ends a c l ≤ 23) ∧ (∀ c, c < 5 → ∀ k, k ≤ now a c → ∀ d, d < 5 → rsl a c k d ≤ 100 ∧ rsp a c k d ≤ 23) ∧ (∀ c, c < 5 → frm a c ≤ 23) ∧ (∀ c, c < 5 → wri a c ≤ now a c)
theorem mid_Bl {a : AS} (hb : Bd a) (hs : Sm a) {c : Nat} (hc : c < nA a) {F : Nat → Prop} : Bl (midA a c F) := by
  have n1 : nA (midA a c F) = nA a := congrFun (congrFun (congrFun (mid_oth (by decide)) 0) 0) 0
  have hn : ∀ i, now (midA a c F) i ≤ now a i := by
    intro i
    by_cases h : F i
    · rw [mid_now.1 h]
      exact keep_le hb hc
    · rw [mid_now.2 h]
      exact Nat.le_refl _
  refine ⟨by rw [n1]; exact hb.1.2, fun i hi => Nat.le_trans (hn i) (hb.2.1 i hi), fun i hi => ?_, fun i hi l hl => ?_, fun i hi k hk d hd => ?_, fun i hi => ?_, fun i hi => ?_⟩
  · have := hb.2.2.2.2.1 i hi
    by_cases h : F i
    · rw [mid_life.1 h]
      omega
    · rw [mid_life.2 h]
      omega
  · by_cases h : F i ∧ l = life a i
    · rw [mid_ends.1 h.1 h.2]
      exact Nat.le_trans (keep_le hb hc) (hb.2.1 i hi)
    · rw [mid_ends.2 h]
      refine hs.2.2.2.2.1 i hi l ?_
      by_cases hF : F i
      · rw [mid_life.1 hF] at hl
        have : l ≠ life a i := fun q => h ⟨hF, q⟩
        omega
      · rw [mid_life.2 hF] at hl
        exact hl
  · have r1 : rsl (midA a c F) i k d = rsl a i k d := congrFun (congrFun (congrFun (mid_oth (by decide)) i) k) d
    have r2 : rsp (midA a c F) i k d = rsp a i k d := congrFun (congrFun (congrFun (mid_oth (by decide)) i) k) d
    rw [r1, r2]
    have := hs.2.2.1 i hi k (Nat.le_trans hk (hn i)) d hd
    omega
  · have r1 : frm (midA a c F) i = frm a i := congrFun (congrFun (congrFun (mid_oth (by decide)) i) 0) 0
    rw [r1]
    exact Nat.le_trans (hb.2.2.2.1 i hi) (hb.2.1 i hi)
  · by_cases h : F i
    · rw [mid_wri.1 h, mid_now.1 h]
      by_cases q : wri a i < keep a c i
      · rw [if_pos q]
        omega
      · rw [if_neg q]
        exact Nat.le_refl _
    · rw [mid_wri.2 h, mid_now.2 h]
      exact hb.2.2.1 i hi
theorem lM_isDeadPage {a : AS} {μ : St} (h : RepM a μ) (hl : Bl a) {d k : Nat} (hd : d < 5) (hk : k ≤ now a d) {Φ : Int32 → St → Prop} (kk : Φ (b01 (deadP a d k)) μ) :
    ∀ (N i : Nat) (z : Int32), i ≤ nA a → nA a - i < N → z = b01 (∃ e, e < i ∧ deadR a e (rsl a d k e) (rsp a d k e)) → wlX10_isDeadPage_5 Φ N (nI d) (nI k) z (nI i) μ := by
  have hn := hl.1
  have h23 := hl.2.1 d hd
  intro N
  induction N with
  | zero =>
    intro i z h1 h2
    omega
  | succ N ih =>
    intro i z hi hN ez
    show wlX10_isDeadPage_5_body Φ (wlX10_isDeadPage_5 Φ N) (nI d) (nI k) z (nI i) μ
    unfold wlX10_isDeadPage_5_body wbX10_isDeadPage_56 wpX10_restOf wpX10_pageOf
    dsimp only
    rw [h.1.1, nI_lit 24, mulI, addI, nI_lit 5, mulI, addI]
    refine pk_le (nA a) i (fun h1 => ?_) (fun h1 => ?_)
    · subst ez
      refine ⟨b01_n _, ?_⟩
      rw [b01_c (Q := deadP a d k)]
      · exact kk
      · have e : i = nA a := by omega
        subst e
        exact Iff.rfl
    · have e1 := h.2.2.1.2.2.1 d hd k hk i (by omega)
      have e2 := h.2.2.1.2.2.2 d hd k hk i (by omega)
      have s1 := hl.2.2.2.2.1 d hd k hk i (by omega)
      rw [rd_nI _ _ (by omega), rd_nI _ _ (by omega), e1, e2]
      subst ez
      refine brB (fun hn1 => ?_) (fun hp => ?_)
      · refine ⟨pk_in (5 * (24 * d + k) + i) 600 (by omega), pk_in (5 * (24 * d + k) + i) 600 (by omega), ?_⟩
        refine pM_isDead h (by omega) (hl.2.2.1 i (by omega)) (fun j hj => by have := hl.2.2.2.1 i (by omega) j hj; omega) (by omega) (by omega) ?_
        refine brB (fun h2 => ?_) (fun h2 => ?_)
        · intro y hy
          rw [hy, nI_1]
          refine ih (i + 1) _ (by omega) (by omega) ?_
          rw [b01_f]
          rintro ⟨e, p1, p2⟩
          by_cases q : e = i
          · subst q
            exact h2 p2
          · exact hn1 ⟨e, by omega, p2⟩
        · intro y hy
          rw [hy, nI_1]
          refine ih (i + 1) _ (by omega) (by omega) ?_
          rw [b01_t]
          exact ⟨i, by omega, h2⟩
      · intro y hy
        rw [hy, nI_1]
        refine ih (i + 1) _ (by omega) (by omega) ?_
        rw [b01_t]
        obtain ⟨e, p1, p2⟩ := hp
        exact ⟨e, by omega, p2⟩
theorem pM_isDeadPage {a : AS} {μ : St} (h : RepM a μ) (hl : Bl a) {d k : Nat} (hd : d < 5) (hk : k ≤ now a d) {Φ : Int32 → St → Prop} (kk : Φ (b01 (deadP a d k)) μ) : wpX10_isDeadPage (nI d) (nI k) μ Φ := by
  unfold wpX10_isDeadPage
  refine ⟨_, lM_isDeadPage h hl hd hk kk (nA a + 1) 0 _ (Nat.zero_le _) (by omega) ?_⟩
  rw [b01_f]
  rintro ⟨e, p1, -⟩
  omega
theorem lM_firstDead {a : AS} {μ : St} (h : RepM a μ) (hl : Bl a) {d : Nat} (hd : d < 5) {Φ : Int32 → St → Prop} (k1 : (∀ k, frm a d ≤ k → k ≤ now a d → ¬ deadP a d k) → Φ (-1) μ) (k2 : ∀ k, frm a d ≤ k → k ≤ now a d → deadP a d k → (∀ j, frm a d ≤ j → j < k → ¬ deadP a d j) → Φ (nI k) μ) :
    ∀ (N k : Nat), frm a d ≤ k → k ≤ 24 → 25 - k < N → (∀ j, frm a d ≤ j → j < k → ¬ deadP a d j) → wlX10_firstDead_7 Φ N (nI d) (nI k) μ := by
  have h23 := hl.2.1 d hd
  have e2 := h.1.2.2.1 d hd
  intro N
  induction N with
  | zero =>
    intro k h1 h2 h3
    omega
  | succ N ih =>
    intro k hk hk24 hN hno
    show wlX10_firstDead_7_body Φ (wlX10_firstDead_7 Φ N) (nI d) (nI k) μ
    unfold wlX10_firstDead_7_body wbX10_firstDead_32
    rw [rd_nI _ _ (by omega), e2]
    refine ⟨pk_in d 5 hd, pk_lt (now a d) k (fun h1 => ⟨pk_in d 5 hd, pk_lt (now a d) k (fun _ => ?_) (fun q => absurd q (by omega))⟩) (fun h1 => ?_)⟩
    · exact k1 (fun j hj1 hj2 => hno j hj1 (by omega))
    · refine pM_isDeadPage h hl hd h1 (brB (fun h2 => ?_) (fun h2 => ?_))
      · intro y hy
        rw [hy, nI_1]
        refine ih (k + 1) (by omega) (by omega) (by omega) (fun j hj1 hj2 => ?_)
        by_cases q : j = k
        · subst q
          exact h2
        · exact hno j hj1 (by omega)
      · refine ⟨pk_in d 5 hd, ?_⟩
        rw [rd_nI _ _ (by omega), e2]
        exact pk_lt (now a d) k (fun q => absurd q (by omega)) (fun _ => k2 k hk h1 h2 hno)
theorem pM_firstDead {a : AS} {μ : St} (h : RepM a μ) (hl : Bl a) {d : Nat} (hd : d < 5) {Φ : Int32 → St → Prop} (k1 : (∀ k, frm a d ≤ k → k ≤ now a d → ¬ deadP a d k) → Φ (-1) μ) (k2 : ∀ k, frm a d ≤ k → k ≤ now a d → deadP a d k → (∀ j, frm a d ≤ j → j < k → ¬ deadP a d j) → Φ (nI k) μ) : wpX10_firstDead (nI d) μ Φ := by
  unfold wpX10_firstDead
  refine ⟨pk_in d 5 hd, fun y hy => ⟨26, ?_⟩⟩
  rw [rd_nI _ _ (by omega), h.1.2.2.2.2 d hd] at hy
  rw [hy]
  exact lM_firstDead h hl hd k1 k2 26 (frm a d) (Nat.le_refl _) (by have := hl.2.2.2.2.2.1 d hd; omega) (by omega) (fun j h1 h2 => absurd h1 (by omega))
theorem pM_falls {a : AS} {μ : St} (h : RepM a μ) (hl : Bl a) {d k : Nat} (hd : d < 5) (hk : k ≤ now a d) {Φ : Int32 → St → Prop} (kk : ∀ μ', RepM (fallA a d k) μ' → μ'.1 = μ.1 → (∀ b, b ≠ 1 → b ≠ 2 → b ≠ 3 → b ≠ 5 → μ'.2 b = μ.2 b) → Φ (nI (now a d - k)) μ') : wpX10_falls (nI d) (nI k) μ Φ := by
  unfold wpX10_falls wbX10_falls_69
  have h23 := hl.2.1 d hd
  have hlf := hl.2.2.1 d hd
  have hw := hl.2.2.2.2.2.2 d hd
  obtain ⟨⟨g0, g1, g2, g3, g4⟩, h2, ⟨p1, p2, p3, p4⟩, h4, h5, h6, h7⟩ := h
  refine ⟨pk_in d 5 hd, fun y ey => ⟨pk_in d 5 hd, fun t4 e4 => ⟨pk_in d 5 hd, ?_⟩⟩⟩
  rw [rd_nI _ _ (by omega), g2 d hd, subI hk] at ey
  rw [wr_nI _ _ _ (by omega)] at e4
  have f1 : t4.2 1 d = nI (life a d) := by rw [e4]; exact g1 d hd
  rw [ey, rd_nI _ _ (by omega), f1, nI_lit 128, mulI, addI]
  refine ⟨pk_in (128 * d + life a d) 640 (by omega), fun t7 e7 => ⟨pk_in d 5 hd, pk_in d 5 hd, fun t10 e10 => ⟨pk_in d 5 hd, ?_⟩⟩⟩
  rw [wr_nI _ _ _ (by omega)] at e7
  have f2 : t7.2 1 d = nI (life a d) := by rw [e7, w2_ne _ _ _ (by decide)]; exact f1
  rw [rd_nI _ _ (by omega), wr_nI _ _ _ (by omega), f2, nI_1] at e10
  have f3 : t10.2 3 d = nI (wri a d) := by rw [e10, e7, e4]; exact g3 d hd
  have frm1 : ∀ v : Int32, (w2 t10 3 d v).1 = μ.1 := fun v => by rw [e10, e7, e4]; rfl
  have frm2 : ∀ (v : Int32) (b : Nat), b ≠ 1 → b ≠ 2 → b ≠ 3 → b ≠ 5 → (w2 t10 3 d v).2 b = μ.2 b := fun v b b1 b2 b3 b5 => by rw [w2_ne _ _ _ b3, e10, w2_ne _ _ _ b1, e7, w2_ne _ _ _ b5, e4, w2_ne _ _ _ b2]
  have fin : ∀ v, v = (if wri a d < k then wri a d else k) → RepM (fallA a d k) (w2 t10 3 d (nI v)) := by
    clear frm1 frm2
    intro v ev
    have hlife : ∀ i, life (fallA a d k) i = if i = d then life a d + 1 else life a i := by
      intro i
      show (if 1 = 1 ∧ i = d then a 1 i 0 0 + 1 else _) = _
      by_cases e : i = d
      · rw [if_pos ⟨rfl, e⟩, if_pos e, e]
      · rw [if_neg (fun q => e q.2), if_neg e, if_neg (fun q => e q.2), if_neg (fun q => e q.2), if_neg (fun q => e q.2.1)]
    have hnow : ∀ i, now (fallA a d k) i = if i = d then k else now a i := by
      intro i
      show (if 2 = 1 ∧ i = d then _ else _) = _
      rw [if_neg (by rintro ⟨q, -⟩; omega)]
      by_cases e : i = d
      · rw [if_pos ⟨rfl, e⟩, if_pos e]
      · rw [if_neg (fun q => e q.2), if_neg e, if_neg (fun q => e q.2), if_neg (fun q => e q.2.1)]
    have hwri : ∀ i, wri (fallA a d k) i = if i = d then (if wri a d < k then wri a d else k) else wri a i := by
      intro i
      show (if 3 = 1 ∧ i = d then _ else _) = _
      rw [if_neg (by rintro ⟨q, -⟩; omega), if_neg (by rintro ⟨q, -⟩; omega)]
      by_cases e : i = d
      · rw [if_pos ⟨rfl, e⟩, if_pos e]
      · rw [if_neg (fun q => e q.2), if_neg e, if_neg (fun q => e q.2.1)]
    have hends : ∀ i j, ends (fallA a d k) i j = if i = d ∧ j = life a d then k else ends a i j := by
      intro i j
      show (if 5 = 1 ∧ i = d then _ else _) = _
      rw [if_neg (by rintro ⟨q, -⟩; omega), if_neg (by rintro ⟨q, -⟩; omega), if_neg (by rintro ⟨q, -⟩; omega)]
      by_cases e : i = d ∧ j = life a d
      · rw [if_pos ⟨rfl, e⟩, if_pos e]
      · rw [if_neg (fun q => e q.2), if_neg e]
    have hoth : ∀ t, t ≠ 1 → t ≠ 2 → t ≠ 3 → t ≠ 5 → (fallA a d k) t = a t := by
      intro t q1 q2 q3 q5
      funext i j z
      show (if t = 1 ∧ i = d then _ else _) = _
      rw [if_neg (fun q => q1 q.1), if_neg (fun q => q2 q.1), if_neg (fun q => q3 q.1), if_neg (fun q => q5 q.1)]
    have hle : ∀ i, now (fallA a d k) i ≤ now a i := by
      intro i
      rw [hnow]
      by_cases e : i = d
      · rw [if_pos e, e]
        exact hk
      · rw [if_neg e]
        exact Nat.le_refl _
    subst e10
    subst e7
    subst e4
    refine ⟨⟨?_, ?_, ?_, ?_, ?_⟩, ?_, ⟨?_, ?_, ?_, ?_⟩, ?_, ?_, ?_, ?_⟩
    · show μ.1 0 = nI ((fallA a d k) 0 0 0 0)
      rw [hoth 0 (by decide) (by decide) (by decide) (by decide)]
      exact g0
    · intro i hi
      rw [hlife, w2_ne _ _ _ (by decide), w2_at]
      by_cases e : i = d
      · rw [if_pos e, if_pos e]
      · rw [if_neg e, if_neg e]
        exact g1 i hi
    · intro i hi
      rw [hnow, w2_ne _ _ _ (by decide), w2_ne _ _ _ (by decide), w2_ne _ _ _ (by decide), w2_at]
      by_cases e : i = d
      · rw [if_pos e, if_pos e]
      · rw [if_neg e, if_neg e]
        exact g2 i hi
    · intro i hi
      rw [hwri, w2_at]
      by_cases e : i = d
      · rw [if_pos e, if_pos e, ev]
      · rw [if_neg e, if_neg e]
        exact g3 i hi
    · intro i hi
      show _ = nI ((fallA a d k) 4 i 0 0)
      rw [hoth 4 (by decide) (by decide) (by decide) (by decide)]
      exact g4 i hi
    · intro i hi l hl2
      rw [hlife] at hl2
      have hli := hl.2.2.1 i hi
      rw [hends, w2_ne _ _ _ (by decide), w2_ne _ _ _ (by decide), w2_at]
      by_cases e : i = d ∧ l = life a d
      · rw [if_pos (by rw [e.1, e.2]), if_pos e]
      · have hl3 : l < life a i := by
          by_cases e2 : i = d
          · rw [if_pos e2] at hl2
            have : l ≠ life a d := fun q => e ⟨e2, q⟩
            rw [e2]
            omega
          · rw [if_neg e2] at hl2
            exact hl2
        rw [if_neg (by omega), if_neg e]
        exact h2 i hi l hl3
    · intro i hi j hj
      show _ = nI ((fallA a d k) 6 i j 0)
      rw [hoth 6 (by decide) (by decide) (by decide) (by decide)]
      exact p1 i hi j (Nat.le_trans hj (hle i))
    · intro i hi j hj
      show _ = nI ((fallA a d k) 7 i j 0)
      rw [hoth 7 (by decide) (by decide) (by decide) (by decide)]
      exact p2 i hi j (Nat.le_trans hj (hle i))
    · intro i hi j hj e he
      show _ = nI ((fallA a d k) 8 i j e)
      rw [hoth 8 (by decide) (by decide) (by decide) (by decide)]
      exact p3 i hi j (Nat.le_trans hj (hle i)) e he
    · intro i hi j hj e he
      show _ = nI ((fallA a d k) 9 i j e)
      rw [hoth 9 (by decide) (by decide) (by decide) (by decide)]
      exact p4 i hi j (Nat.le_trans hj (hle i)) e he
    · unfold M4 lcn lto lby lsm lrl lrp
      rw [hoth 10 (by decide) (by decide) (by decide) (by decide), hoth 11 (by decide) (by decide) (by decide) (by decide), hoth 12 (by decide) (by decide) (by decide) (by decide), hoth 13 (by decide) (by decide) (by decide) (by decide), hoth 14 (by decide) (by decide) (by decide) (by decide), hoth 15 (by decide) (by decide) (by decide) (by decide)]
      exact h4
    · unfold M5 scn sck spg sst rcn rel
      rw [hoth 16 (by decide) (by decide) (by decide) (by decide), hoth 17 (by decide) (by decide) (by decide) (by decide), hoth 18 (by decide) (by decide) (by decide) (by decide), hoth 19 (by decide) (by decide) (by decide) (by decide), hoth 20 (by decide) (by decide) (by decide) (by decide), hoth 21 (by decide) (by decide) (by decide) (by decide)]
      exact h5
    · unfold M6 gon bdn non fln
      rw [hoth 22 (by decide) (by decide) (by decide) (by decide), hoth 23 (by decide) (by decide) (by decide) (by decide), hoth 24 (by decide) (by decide) (by decide) (by decide), hoth 25 (by decide) (by decide) (by decide) (by decide)]
      exact h6
    · unfold M7 tln txt plc
      rw [hoth 26 (by decide) (by decide) (by decide) (by decide), hoth 27 (by decide) (by decide) (by decide) (by decide), hoth 28 (by decide) (by decide) (by decide) (by decide)]
      exact h7
  rw [rd_nI _ _ (by omega), f3]
  refine pk_le k (wri a d) (fun q => ⟨pk_in d 5 hd, fun t et => ?_⟩) (fun q => ⟨pk_in d 5 hd, pk_in d 5 hd, fun t et => ?_⟩)
  · rw [wr_nI _ _ _ (by omega)] at et
    rw [et]
    exact kk _ (fin k (by rw [if_neg (by omega)])) (frm1 _) (frm2 _)
  · rw [wr_nI _ _ _ (by omega)] at et
    rw [et]
    exact kk _ (fin (wri a d) (by rw [if_pos q])) (frm1 _) (frm2 _)
