-- THE CLASS: what a loss takes
/-- what the class has found out so far: those of F have fallen -/
noncomputable def kpF (a : AS) (c : Nat) (F : Nat → Prop) (e : Nat) : Nat := @ite Nat (F e) (Classical.propDecidable _) (keep a c e) (now a e)
theorem kpF_t {a : AS} {c : Nat} {F : Nat → Prop} {e : Nat} (h : F e) : kpF a c F e = keep a c e := if_pos h
theorem kpF_f {a : AS} {c : Nat} {F : Nat → Prop} {e : Nat} (h : ¬ F e) : kpF a c F e = now a e := if_neg h
theorem kpF_ge {a : AS} (hb : Bd a) {c : Nat} (hc : c < nA a) {F : Nat → Prop} (e : Nat) : keep a c e ≤ kpF a c F e ∧ kpF a c F e ≤ now a e := by
  have := keep_le hb (c := c) (d := e) hc
  by_cases h : F e
  · rw [kpF_t h]
    exact ⟨Nat.le_refl _, this⟩
  · rw [kpF_f h]
    exact ⟨this, Nat.le_refl _⟩
/-- the loss's own state -/
def LsR (a : AS) (c : Nat) (K : Nat → Nat) (t : St) : Prop := t.1 128 = nI c ∧ t.1 129 = nI (nA a) ∧ (∀ e, e < nA a → t.2 51 e = nI (now a e)) ∧ (∀ e, e < nA a → t.2 50 e = nI (K e))
theorem repC_ls {a : AS} {σ t : St} (h : RepC a σ) (F : ∀ j, j ≠ 128 → j ≠ 129 → t.1 j = σ.1 j) (R : ∀ b, b ≠ 50 → b ≠ 51 → t.2 b = σ.2 b) : RepC a t :=
  repC_oth h (fun j hj => F j (by omega) (by omega)) (fun j h1 h2 h3 h4 => R j (by omega) (by omega)) (fun u hu => rfl)
    (C4_fr h.2.2.2.1 (F _ (by decide) (by decide)) (fun j hj => R j (by omega) (by omega)) (fun u h1 h2 => rfl))
    (C5_fr h.2.2.2.2.1 (F _ (by decide) (by decide)) (F _ (by decide) (by decide)) (fun j h1 h2 => R j (by omega) (by omega)) (fun u h1 h2 => rfl))
    (C6_fr h.2.2.2.2.2.1 (fun j hj => F j (by omega) (by omega)) (fun u h1 h2 => rfl))
    (C7_fr h.2.2.2.2.2.2.1 (F _ (by decide) (by decide)) (R 52 (by decide) (by decide)) (fun u h1 h2 => rfl))
    (C8_fr h.2.2.2.2.2.2.2 (F _ (by decide) (by decide)) (fun j h1 h2 => R j (by omega) (by omega)) (fun u h1 h2 => rfl))
theorem lC_fd13 {a : AS} {t : St} (hI : Inv a) (h : RepC a t) {c : Nat} (hc : c < nA a) {F : Nat → Prop} (hF : F c) (hL : LsR a c (kpF a c F) t) {d k : Nat} (hd : d < nA a) (hk : k ≤ now a d) {y : Int32} {Φ : Int32 → St → Prop} {K5 : Int32 → Int32 → St → Prop} (k1 : k ≤ keep a c d → K5 y (nI (k + 1)) t) (k2 : keep a c d < k → Φ (nI k) t) :
    ∀ (N e : Nat), e ≤ nA a → nA a - e < N → (∀ f, f < e → rsp a d k f ≤ kpF a c F f) → wlX1_firstDead_13 (5 + d) Φ K5 N y (nI k) (nI e) t := by
  have hn := hI.1.1
  have h23 := hI.1.2.1 d (by omega)
  obtain ⟨L1, L2, L3, L4, L5⟩ := ln_a (c := d) (by omega)
  obtain ⟨P1, P2, P3, P4, P5⟩ := pl_a d
  have hcl : cLen 50 = 5 := by decide
  intro N
  induction N with
  | zero => intro e h1 h2; omega
  | succ N ih =>
    intro e he hN hno
    show wlX1_firstDead_13_body (5 + d) Φ K5 (wlX1_firstDead_13 (5 + d) Φ K5 N) y (nI k) (nI e) t
    unfold wlX1_firstDead_13_body
    rw [hL.2.1]
    refine pk_le (nA a) e (fun q y2 e2 => ?_) (fun q => ?_)
    · rw [e2, nI_1]
      refine k1 ?_
      have := hno c (by omega)
      rw [kpF_t hF, keep_own] at this
      exact (keep_iff hI.1 hI.2.2.1 hc hd hk).mpr this
    · have s1 := hI.2.1.2.2.1 d (by omega) k hk e (by omega)
      have s2 := kpF_ge hI.1 hc (F := F) e
      have s3 := hI.1.2.1 e (by omega)
      refine pC_pageOf (by rw [L5]; omega) (pC_at (by rw [hcl]; omega) ?_)
      rw [P5, h.2.2.1.2.2.2 d (by omega) k hk e (by omega), hL.2.2.2 e q]
      refine pk_le (rsp a d k e) (kpF a c F e) (fun z y8 e8 => ?_) (fun z => ?_)
      · rw [e8, nI_1]
        refine ih (e + 1) (by omega) (by omega) (fun f hf => ?_)
        by_cases w : f = e
        · subst w; exact z
        · exact hno f (by omega)
      · refine k2 ?_
        refine Classical.byContradiction (fun w => ?_)
        have := keep_rest hI.1 hI.2.2.1 hc hd q (k := k) (by omega)
        omega
theorem lC_fd5 {a : AS} {t : St} (hI : Inv a) (h : RepC a t) {c : Nat} (hc : c < nA a) {F : Nat → Prop} (hF : F c) (hL : LsR a c (kpF a c F) t) {d : Nat} (hd : d < nA a) {Φ : Int32 → St → Prop} (k1 : F d ∨ now a d ≤ keep a c d → Φ (-1) t) (k2 : ¬ F d → keep a c d < now a d → Φ (nI (keep a c d + 1)) t) :
    ∀ (N k : Nat), k ≤ keep a c d + 1 → keep a c d + 1 - k < N → wlX1_firstDead_5 (5 + d) Φ N (nI (kpF a c F d)) (nI k) t := by
  have hn := hI.1.1
  have h23 := hI.1.2.1 d (by omega)
  have hke := kpF_ge hI.1 hc (F := F) d
  intro N
  induction N with
  | zero => intro k h1 h2; omega
  | succ N ih =>
    intro k hk hN
    show wlX1_firstDead_5_body (5 + d) Φ (wlX1_firstDead_5 (5 + d) Φ N) (nI (kpF a c F d)) (nI k) t
    unfold wlX1_firstDead_5_body
    refine pk_lt (kpF a c F d) k (fun q => k1 ?_) (fun q => ?_)
    · by_cases w : F d
      · exact Or.inl w
      · rw [kpF_f w] at q
        exact Or.inr (by omega)
    · refine ⟨nA a + 1, lC_fd13 hI h hc hF hL hd (by omega) (fun z => ?_) (fun z => ?_) (nA a + 1) 0 (Nat.zero_le _) (by omega) (fun f hf => absurd hf (Nat.not_lt_zero f))⟩
      · exact ih (k + 1) (by omega) (by omega)
      · have e : k = keep a c d + 1 := by omega
        subst e
        by_cases w : F d
        · rw [kpF_t w] at q
          omega
        · exact k2 w (by omega)
theorem pC_firstDead {a : AS} {t : St} (hI : Inv a) (h : RepC a t) {c : Nat} (hc : c < nA a) {F : Nat → Prop} (hF : F c) (hL : LsR a c (kpF a c F) t) {d : Nat} (hd : d < nA a) {Φ : Int32 → St → Prop} (k1 : F d ∨ now a d ≤ keep a c d → Φ (-1) t) (k2 : ¬ F d → keep a c d < now a d → Φ (nI (keep a c d + 1)) t) : wpX1_firstDead (5 + d) (nI (kpF a c F d)) t Φ := by
  unfold wpX1_firstDead
  have hn := hI.1.1
  intro y1 e1
  rw [h.1.2.2.2.2 d (by omega)] at e1
  rw [e1]
  have hfr := keep_frm hI.1 hI.2.2.1 hc hd
  exact ⟨keep a c d + 2, lC_fd5 hI h hc hF hL hd k1 k2 (keep a c d + 2) (frm a d) (by omega) (by omega)⟩
theorem cF_le (F : Nat → Prop) : ∀ n, cF F n ≤ n := by
  intro n
  induction n with
  | zero => exact Nat.le_refl 0
  | succ n ih =>
    rw [cF_s]
    by_cases h : F n
    · rw [if_pos h]; omega
    · rw [if_neg h]; omega
theorem kpF_add {a : AS} {c d : Nat} {F : Nat → Prop} (e : Nat) : kpF a c (fun i => F i ∨ i = d) e = if e = d then keep a c d else kpF a c F e := by
  by_cases h : e = d
  · rw [if_pos h, kpF_t (Or.inr h), h]
  · rw [if_neg h]
    by_cases w : F e
    · rw [kpF_t w, kpF_t (Or.inl w)]
    · rw [kpF_f w, kpF_f (fun z => w (z.resolve_right h))]
theorem lC_fs82 {a : AS} (hI : Inv a) {c : Nat} (hc : c < nA a) {Φ : St → Prop} (kk : ∀ t, RepC a t → LsR a c (keep a c) t → Φ t) :
    ∀ (N : Nat) (F : Nat → Prop) (d s : Nat) (t : St), F c → d ≤ nA a → 6 * cF F (nA a) + (nA a - d) < N → s + 6 * cF F (nA a) ≤ 30 + d → (∀ i, i < d → F i ∨ now a i ≤ keep a c i) → RepC a t → LsR a c (kpF a c F) t → wlX1_foresee_82 Φ N (nI d) (nI s) t := by
  have hn := hI.1.1
  have hcl : cLen 50 = 5 := by decide
  intro N
  induction N with
  | zero => intro F d s t h1 h2 h3; omega
  | succ N ih =>
    intro F d s t hF hd hN hs hno h hL
    show wlX1_foresee_82_body Φ (wlX1_foresee_82 Φ N) (nI d) (nI s) t
    unfold wlX1_foresee_82_body
    rw [hL.2.1]
    refine pk_le (nA a) d (fun q => ?_) (fun q => pk_le 10000 s (fun w => absurd w (by omega)) (fun w => ?_))
    · refine kk t h ⟨hL.1, hL.2.1, hL.2.2.1, fun e he => ?_⟩
      rw [hL.2.2.2 e he]
      rcases hno e (by omega) with z | z
      · rw [kpF_t z]
      · have := kpF_ge hI.1 hc (F := F) e
        have := keep_le hI.1 (c := c) (d := e) hc
        rw [show kpF a c F e = keep a c e by omega]
    · refine pC_clerk (by omega) (pC_at (by rw [hcl]; omega) ?_)
      rw [hL.2.2.2 d q]
      unfold wbX1_foresee_135 wbX1_foresee_148
      refine pC_firstDead hI h hc hF hL q (fun z => ⟨fun _ => ⟨fun _ y1 e1 => ?_, fun y => absurd rfl y⟩, fun y => absurd rfl y⟩) (fun z z2 => ⟨fun y => ?_, fun _ => ?_⟩)
      · rw [e1, nI_1, nI_1]
        refine ih F (d + 1) (s + 1) t hF (by omega) (by omega) (by omega) (fun i hi => ?_) h hL
        by_cases e : i = d
        · subst e; exact z
        · exact hno i (by omega)
      · have h23 := hI.1.2.1 d (by omega)
        rw [neI1 (by omega)] at y
        exact y.elim
      · have h23 := hI.1.2.1 d (by omega)
        have e1 : nI (keep a c d + 1) - (1 : Int32) = nI (keep a c d) := by rw [nI_lit 1, subI (by omega), Nat.add_sub_cancel]
        rw [e1]
        refine pC_put (by rw [hcl]; omega) ⟨fun y => ?_, fun _ y1 e2 => ?_⟩
        · rw [neI1 (by omega)] at y
          exact y.elim
        · have hca := cF_add z (nA a)
          rw [if_pos q] at hca
          rw [e2, nI_1]
          refine ih (fun i => F i ∨ i = d) 0 (s + 1) _ (Or.inl hF) (by omega) (by omega) (by omega) (fun i hi => absurd hi (Nat.not_lt_zero i)) (repC_ls h (fun j _ _ => rfl) (fun b b1 b2 => w2_ne _ _ _ b1)) ⟨hL.1, hL.2.1, fun e he => ?_, fun e he => ?_⟩
          · rw [w2_ne _ _ _ (by decide)]
            exact hL.2.2.1 e he
          · rw [w2_at, kpF_add]
            by_cases y : e = d
            · rw [if_pos y, if_pos y]
            · rw [if_neg y, if_neg y]
              exact hL.2.2.2 e he
theorem lC_fs15 {a : AS} (hI : Inv a) {c : Nat} (hc : c < nA a) {Φ : St → Prop} (kk : ∀ t, RepC a t → LsR a c (keep a c) t → Φ t) :
    ∀ (N i : Nat) (t : St), i ≤ nA a → nA a - i < N → RepC a t → t.1 128 = nI c → t.1 129 = nI (nA a) → (∀ e, e < i → t.2 51 e = nI (now a e) ∧ t.2 50 e = nI (now a e)) → wlX1_foresee_15 Φ N (nI c) (nI i) t := by
  have hn := hI.1.1
  have hcl : cLen 50 = 5 ∧ cLen 51 = 5 := by decide
  intro N
  induction N with
  | zero => intro i t h1 h2; omega
  | succ N ih =>
    intro i t hi hN h h128 h129 hv
    show wlX1_foresee_15_body Φ (wlX1_foresee_15 Φ N) (nI c) (nI i) t
    unfold wlX1_foresee_15_body
    rw [h129]
    refine pk_le (nA a) i (fun q => pC_clerk (by omega) ?_) (fun q => pC_clerk (by omega) ?_)
    · rw [h.1.2.2.2.1 c (by omega)]
      refine pC_put (by rw [hcl.1]; omega) ⟨6 * cF (fun e => e = c) (nA a) + nA a + 1, ?_⟩
      have hcn := cF_le (fun e => e = c) (nA a)
      have := lC_fs82 hI hc kk (6 * cF (fun e => e = c) (nA a) + nA a + 1) (fun e => e = c) 0 0 (w2 t 50 c (nI (wri a c))) rfl (Nat.zero_le _) (by omega) (by omega) (fun i hi => absurd hi (Nat.not_lt_zero i)) (repC_ls h (fun j _ _ => rfl) (fun b b1 b2 => w2_ne _ _ _ b1)) ⟨h128, h129, fun e he => ?_, fun e he => ?_⟩
      · exact this
      · rw [w2_ne _ _ _ (by decide)]
        exact (hv e (by omega)).1
      · rw [w2_at]
        by_cases y : e = c
        · rw [if_pos y, kpF_t (F := fun e => e = c) y, y, keep_own]
        · rw [if_neg y, kpF_f (F := fun e => e = c) y]
          exact (hv e (by omega)).2
    · rw [h.1.2.2.1 i (by omega)]
      refine pC_put (by rw [hcl.2]; omega) (pC_clerk (by omega) ?_)
      rw [show (w2 t 51 i (nI (now a i))).1 (32 * (5 + i) + 2) = nI (now a i) from h.1.2.2.1 i (by omega)]
      refine pC_put (by rw [hcl.1]; omega) (fun y11 e11 => ?_)
      rw [e11, nI_1]
      refine ih (i + 1) _ (by omega) (by omega) (repC_ls h (fun j _ _ => rfl) (fun b b1 b2 => by rw [w2_ne _ _ _ b1, w2_ne _ _ _ b2])) h128 h129 (fun e he => ?_)
      constructor
      · rw [w2_ne _ _ _ (by decide), w2_at]
        by_cases y : e = i
        · rw [if_pos y, y]
        · rw [if_neg y]
          exact (hv e (by omega)).1
      · rw [w2_at]
        by_cases y : e = i
        · rw [if_pos y, y]
        · rw [if_neg y, w2_ne _ _ _ (by decide)]
          exact (hv e (by omega)).2
theorem pC_foresee {a : AS} {σ : St} (hI : Inv a) (h : RepC a σ) {c : Nat} (hc : c < nA a) {Φ : St → Prop} (kk : ∀ t, RepC a t → LsR a c (keep a c) t → Φ t) : wpX1_foresee (nI c) σ Φ := by
  unfold wpX1_foresee
  intro t1 e1 t2 e2
  have e0 : t1.1 0 = nI (nA a) := by rw [e1]; exact h.1.1
  rw [e0] at e2
  refine ⟨nA a + 1, lC_fs15 hI hc kk (nA a + 1) 0 t2 (Nat.zero_le _) (by omega) (repC_ls h (fun j j1 j2 => ?_) (fun b _ _ => ?_)) ?_ ?_ (fun e he => absurd he (Nat.not_lt_zero e))⟩
  · rw [e2, setI_1, if_neg j2, e1, setI_1, if_neg j1]
  · rw [e2, e1]; rfl
  · rw [e2, e1]; rfl
  · rw [e2]; rfl
theorem pC_fells {a : AS} {t : St} (hI : Inv a) {c : Nat} (hc : c < nA a) (hL : LsR a c (keep a c) t) {d : Nat} (hd : d < nA a) {Φ : Int32 → St → Prop} (kk : Φ (b01 (felled a c d)) t) : wpX1_fells (nI d) t Φ := by
  unfold wpX1_fells
  have hn := hI.1.1
  have h23 := hI.1.2.1 d (by omega)
  have hke := keep_le hI.1 (c := c) (d := d) hc
  have hcl : cLen 50 = 5 ∧ cLen 51 = 5 := by decide
  rw [hL.1]
  refine pk_eq d c (fun z => ?_) (fun z => pC_at (by rw [hcl.1]; omega) (pC_at (by rw [hcl.2]; omega) ?_))
  · rw [b01_t ⟨hd, Or.inl z⟩] at kk
    exact kk
  · rw [hL.2.2.2 d hd, hL.2.2.1 d hd]
    refine pk_le (now a d) (keep a c d) (fun y => ?_) (fun y => ?_)
    · rw [b01_f (fun w => by rcases w.2 with w | w <;> omega)] at kk
      exact kk
    · rw [b01_t ⟨hd, Or.inr y⟩] at kk
      exact kk
theorem lC_pagesGone {a : AS} {t : St} (hI : Inv a) {c : Nat} (hc : c < nA a) (hL : LsR a c (keep a c) t) {Φ : Int32 → St → Prop} (kk : Φ (nI (goneOf a c (nA a))) t) :
    ∀ (N i : Nat), i ≤ nA a → nA a - i < N → wlX1_pagesGone_4 Φ N (nI (goneOf a c i)) (nI i) t := by
  have hn := hI.1.1
  have hcl : cLen 50 = 5 ∧ cLen 51 = 5 := by decide
  intro N
  induction N with
  | zero => intro i h1 h2; omega
  | succ N ih =>
    intro i hi hN
    show wlX1_pagesGone_4_body Φ (wlX1_pagesGone_4 Φ N) (nI (goneOf a c i)) (nI i) t
    unfold wlX1_pagesGone_4_body
    rw [hL.2.1]
    refine pk_le (nA a) i (fun q => ?_) (fun q => pC_at (by rw [hcl.2]; omega) (pC_at (by rw [hcl.1]; omega) (fun y6 e6 y7 e7 => ?_)))
    · have e : i = nA a := by omega
      subst e
      exact kk
    · have hke := keep_le hI.1 (c := c) (d := i) hc
      rw [hL.2.2.2 i q, hL.2.2.1 i q, subI hke, addI] at e6
      rw [e6, e7, nI_1]
      exact ih (i + 1) (by omega) (by omega)
theorem pC_pagesGone {a : AS} {t : St} (hI : Inv a) {c : Nat} (hc : c < nA a) (hL : LsR a c (keep a c) t) {Φ : Int32 → St → Prop} (kk : Φ (nI (goneOf a c (nA a))) t) : wpX1_pagesGone t Φ := by
  unfold wpX1_pagesGone
  exact ⟨nA a + 1, lC_pagesGone hI hc hL kk (nA a + 1) 0 (Nat.zero_le _) (by omega)⟩
theorem lC_clerksFelled {a : AS} {t : St} (hI : Inv a) {c : Nat} (hc : c < nA a) (hL : LsR a c (keep a c) t) {Φ : Int32 → St → Prop} (kk : Φ (nI (fellN a c (nA a))) t) :
    ∀ (N i : Nat), i ≤ nA a → nA a - i < N → wlX1_clerksFelled_4 Φ N (nI (fellN a c i)) (nI i) t := by
  have hn := hI.1.1
  intro N
  induction N with
  | zero => intro i h1 h2; omega
  | succ N ih =>
    intro i hi hN
    show wlX1_clerksFelled_4_body Φ (wlX1_clerksFelled_4 Φ N) (nI (fellN a c i)) (nI i) t
    unfold wlX1_clerksFelled_4_body wbX1_clerksFelled_23
    rw [hL.2.1]
    refine pk_le (nA a) i (fun q => ?_) (fun q => pC_fells hI hc hL q (brB (fun z y1 e1 => ?_) (fun z y5 e5 y1 e1 => ?_)))
    · have e : i = nA a := by omega
      subst e
      exact kk
    · have := ih (i + 1) (by omega) (by omega)
      rw [fellN_s, if_neg z] at this
      rw [e1, nI_1]
      exact this
    · have := ih (i + 1) (by omega) (by omega)
      rw [fellN_s, if_pos z] at this
      rw [e5, e1, nI_1, nI_1]
      exact this
theorem pC_clerksFelled {a : AS} {t : St} (hI : Inv a) {c : Nat} (hc : c < nA a) (hL : LsR a c (keep a c) t) {Φ : Int32 → St → Prop} (kk : Φ (nI (fellN a c (nA a))) t) : wpX1_clerksFelled t Φ := by
  unfold wpX1_clerksFelled
  exact ⟨nA a + 1, lC_clerksFelled hI hc hL kk (nA a + 1) 0 (Nat.zero_le _) (by omega)⟩
theorem pC_keptBy {a : AS} {t : St} (hI : Inv a) {c : Nat} (hL : LsR a c (keep a c) t) {d : Nat} (hd : d < nA a) {Φ : Int32 → St → Prop} (kk : Φ (nI (keep a c d)) t) : wpX1_keptBy (nI d) t Φ := by
  unfold wpX1_keptBy
  have hn := hI.1.1
  have hcl : cLen 50 = 5 := by decide
  refine pC_at (by rw [hcl]; omega) ?_
  rw [hL.2.2.2 d hd]
  exact kk
