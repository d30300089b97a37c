noncomputable def gF (a : AS) (c : Nat) (F : Nat → Prop) : Nat → Nat
  | 0 => 0
  | d + 1 => gF a c F d + @ite Nat (F d) (Classical.propDecidable _) (now a d - keep a c d) 0
noncomputable def cF (F : Nat → Prop) : Nat → Nat
  | 0 => 0
  | d + 1 => cF F d + @ite Nat (F d) (Classical.propDecidable _) 0 1
theorem gF_s (a : AS) (c : Nat) (F : Nat → Prop) (d : Nat) : gF a c F (d + 1) = gF a c F d + @ite Nat (F d) (Classical.propDecidable _) (now a d - keep a c d) 0 := rfl
theorem cF_s (F : Nat → Prop) (d : Nat) : cF F (d + 1) = cF F d + @ite Nat (F d) (Classical.propDecidable _) 0 1 := rfl
theorem gF_add {a : AS} {c : Nat} {F : Nat → Prop} {d : Nat} (hd : ¬ F d) : ∀ n, gF a c (fun i => F i ∨ i = d) n = gF a c F n + (if d < n then now a d - keep a c d else 0) := by
  intro n
  induction n with
  | zero => rfl
  | succ n ih =>
    rw [gF_s, gF_s, ih]
    by_cases e : n = d
    · subst e
      rw [if_pos (c := F n ∨ n = n) (Or.inr rfl), if_neg (c := F n) hd, if_neg (Nat.lt_irrefl n), if_pos (Nat.lt_succ_self n)]
    · have e2 : (F n ∨ n = d) = F n := propext ⟨fun q => q.resolve_right e, Or.inl⟩
      rw [e2]
      generalize @ite Nat (F n) (Classical.propDecidable _) (now a n - keep a c n) 0 = z
      by_cases h1 : d < n
      · rw [if_pos h1, if_pos (show d < n + 1 by omega)]
        omega
      · rw [if_neg h1, if_neg (show ¬ d < n + 1 by omega)]
        omega
theorem cF_add {F : Nat → Prop} {d : Nat} (hd : ¬ F d) : ∀ n, cF (fun i => F i ∨ i = d) n + (if d < n then 1 else 0) = cF F n := by
  intro n
  induction n with
  | zero => rfl
  | succ n ih =>
    rw [cF_s, cF_s, ← ih]
    by_cases e : n = d
    · subst e
      rw [if_pos (c := F n ∨ n = n) (Or.inr rfl), if_neg (c := F n) hd, if_neg (Nat.lt_irrefl n), if_pos (Nat.lt_succ_self n)]
    · have e2 : (F n ∨ n = d) = F n := propext ⟨fun q => q.resolve_right e, Or.inl⟩
      rw [e2]
      generalize @ite Nat (F n) (Classical.propDecidable _) 0 1 = z
      by_cases h1 : d < n
      · rw [if_pos h1, if_pos (show d < n + 1 by omega)]
        omega
      · rw [if_neg h1, if_neg (show ¬ d < n + 1 by omega)]
        omega
theorem gF_fin {a : AS} {c : Nat} {F : Nat → Prop} : ∀ n, (∀ d, d < n → F d ∨ now a d ≤ keep a c d) → gF a c F n = goneOf a c n := by
  intro n
  induction n with
  | zero => intro _; rfl
  | succ n ih =>
    intro h
    rw [gF_s, ih (fun d hd => h d (by omega))]
    show _ = goneOf a c n + (now a n - keep a c n)
    rcases h n (Nat.lt_succ_self n) with q | q
    · rw [if_pos q]
    · by_cases q2 : F n
      · rw [if_pos q2]
      · rw [if_neg q2]
        omega
theorem goneOf_le {a : AS} (hb : Bd a) {c : Nat} : ∀ n, n ≤ 5 → goneOf a c n ≤ 23 * n := by
  intro n
  induction n with
  | zero => intro _; exact Nat.le_refl 0
  | succ n ih =>
    intro h
    have h1 := ih (by omega)
    have h2 := hb.2.1 n (by omega)
    show goneOf a c n + (now a n - keep a c n) ≤ _
    omega
theorem mid_none {a : AS} {c : Nat} : midA a c (fun _ => False) = a := by
  funext t i j k
  rw [mid_def, if_neg (fun q => q.2), if_neg (fun q => q.2), if_neg (fun q => q.2), if_neg (fun q => q.2.1)]
theorem pM_firstMid {a : AS} (hb : Bd a) (hs : Sm a) (hi : Iv a) {c : Nat} (hc : c < nA a) {F : Nat → Prop} (hF : F c) {t : St} (h : RepM (midA a c F) t) {d : Nat} (hd : d < nA a) {Φ : Int32 → St → Prop} (k1 : ¬ (¬ F d ∧ keep a c d < now a d) → Φ (-1) t) (k2 : ¬ F d → keep a c d < now a d → Φ (nI (keep a c d + 1)) t) : wpX10_firstDead (nI d) t Φ := by
  have hn := hb.1
  have fr : frm (midA a c F) d = frm a d := congrFun (congrFun (congrFun (mid_oth (by decide)) d) 0) 0
  have hfk := keep_frm hb hi hc hd
  have hkl := keep_le hb (d := d) hc
  refine pM_firstDead h (mid_Bl hb hs hc) (by omega) (fun hno => k1 ?_) (fun k q1 q2 q3 q4 => ?_)
  · rintro ⟨q1, q2⟩
    refine hno (keep a c d + 1) (by rw [fr]; omega) (by rw [mid_now.2 q1]; omega) ?_
    exact (mid_dead hb hi hc hF hd (by omega)).mpr (by omega)
  · rw [fr] at q1 q4
    have hkn : k ≤ now a d := by
      by_cases q : F d
      · rw [mid_now.1 q] at q2
        omega
      · rw [mid_now.2 q] at q2
        exact q2
    have hdk := (mid_dead hb hi hc hF hd hkn).mp q3
    have hFd : ¬ F d := fun q => by
      rw [mid_now.1 q] at q2
      omega
    have : k = keep a c d + 1 := by
      by_cases e : keep a c d + 1 < k
      · exact absurd ((mid_dead hb hi hc hF hd (by omega)).mpr (by omega)) (q4 (keep a c d + 1) (by omega) e)
      · omega
    rw [this]
    exact k2 hFd (by omega)
def sFr (μ t : St) : Prop := t.1 = μ.1 ∧ ∀ b, b ≠ 1 → b ≠ 2 → b ≠ 3 → b ≠ 5 → t.2 b = μ.2 b
theorem lM_loss21 {a : AS} (hb : Bd a) (hs : Sm a) (hi : Iv a) {c : Nat} (hc : c < nA a) {μ : St} {F : Nat → Prop} (hF : F c) (hFn : ∀ i, F i → i < nA a ∧ (i = c ∨ keep a c i < now a i)) {t : St} (h : RepM (midA a c F) t) (hfr : sFr μ t) {g : Nat} {Φ : Int32 → St → Prop} {K : Int32 → Int32 → St → Prop} (kx : (∀ d, d < nA a → F d ∨ now a d ≤ keep a c d) → K (nI g) 0 t) (ks : ∀ d, d < nA a → ¬ F d → keep a c d < now a d → ∀ t', RepM (midA a c (fun i => F i ∨ i = d)) t' → sFr μ t' → K (nI (g + (now a d - keep a c d))) 1 t') :
    ∀ (N d : Nat), d ≤ nA a → nA a - d < N → (∀ d', d' < d → F d' ∨ now a d' ≤ keep a c d') → wlX10_lossOf_21 Φ K N (nI g) (nI d) t := by
  have hn := hb.1
  have n1 : t.1 0 = nI (nA a) := by
    have : nA (midA a c F) = nA a := congrFun (congrFun (congrFun (mid_oth (by decide)) 0) 0) 0
    rw [h.1.1, this]
  intro N
  induction N with
  | zero =>
    intro d h1 h2
    omega
  | succ N ih =>
    intro d hd hN hno
    show wlX10_lossOf_21_body Φ K (wlX10_lossOf_21 Φ K N) (nI g) (nI d) t
    unfold wlX10_lossOf_21_body wbX10_lossOf_46 wbX10_lossOf_60 wbX10_lossOf_82
    rw [n1]
    refine pk_le (nA a) d (fun h1 => pk_le (nA a) d (fun _ => ⟨fun _ => ?_, fun q => absurd rfl q⟩) (fun q => absurd q (by omega))) (fun h1 => ?_)
    · exact kx (fun d' hd' => hno d' (by omega))
    · refine pM_firstMid hb hs hi hc hF h h1 (fun q => ⟨fun _ y ey => ?_, fun q2 => absurd rfl q2⟩) (fun q1 q2 => ⟨fun q3 => ?_, fun _ => ?_⟩)
      · rw [ey, nI_1]
        refine ih (d + 1) (by omega) (by omega) (fun d' hd' => ?_)
        by_cases e : d' = d
        · subst e
          by_cases z : F d'
          · exact Or.inl z
          · exact Or.inr (Nat.not_lt.mp (fun z2 => q ⟨z, z2⟩))
        · exact hno d' (by omega)
      · have := keep_le hb (d := d) hc
        have := hb.2.1 d (by omega)
        rw [neI1 (by omega)] at q3
        exact q3.elim
      · rw [n1]
        have hk1 := keep_le hb (d := d) hc
        have hk2 := hb.2.1 d (by omega)
        refine pk_le (nA a) d (fun q => absurd q (by omega)) (fun _ => ⟨fun q => absurd q (by decide), fun _ => ?_⟩)
        refine pM_firstMid hb hs hi hc hF h h1 (fun q => absurd ⟨q1, q2⟩ q) (fun _ _ => ?_)
        rw [nI_lit 1, subI (by omega), Nat.add_sub_cancel]
        have hnow : now (midA a c F) d = now a d := mid_now.2 q1
        refine pM_falls h (mid_Bl hb hs hc) (by omega) (by rw [hnow]; omega) (fun t' ht' f1 f2 y ey => ?_)
        rw [hnow, addI] at ey
        rw [ey]
        rw [mid_step q1] at ht'
        exact ks d h1 q1 q2 t' ht' ⟨f1.trans hfr.1, fun b b1 b2 b3 b5 => (f2 b b1 b2 b3 b5).trans (hfr.2 b b1 b2 b3 b5)⟩
theorem lM_loss14 {a : AS} (hb : Bd a) (hs : Sm a) (hi : Iv a) {c : Nat} (hc : c < nA a) {μ : St} {Φ : Int32 → St → Prop} (kk : ∀ t, RepM (midA a c (felled a c)) t → sFr μ t → Φ (nI (goneOf a c (nA a))) t) :
    ∀ (N : Nat) (F : Nat → Prop) (t : St), F c → (∀ i, F i → i < nA a ∧ (i = c ∨ keep a c i < now a i)) → RepM (midA a c F) t → sFr μ t → cF F (nA a) < N → wlX10_lossOf_14 Φ (N + 1) (nI (gF a c F (nA a))) 1 t := by
  intro N
  induction N with
  | zero =>
    intro F t h1 h2 h3 h4 h5
    omega
  | succ N ih =>
    intro F t hF hFn h hfr hN
    show wlX10_lossOf_14_body Φ (wlX10_lossOf_14 Φ (N + 1)) _ 1 t
    unfold wlX10_lossOf_14_body
    refine ⟨fun q => absurd q (by decide), fun _ => ⟨nA a + 1, ?_⟩⟩
    refine lM_loss21 hb hs hi hc hF hFn h hfr (fun hall => ?_) (fun d hd q1 q2 t' ht' hfr' => ?_) (nA a + 1) 0 (Nat.zero_le _) (by omega) (fun d' hd' => absurd hd' (Nat.not_lt_zero d'))
    · show wlX10_lossOf_14_body Φ (wlX10_lossOf_14 Φ N) _ 0 t
      unfold wlX10_lossOf_14_body
      refine ⟨fun _ => ?_, fun q => absurd rfl q⟩
      rw [gF_fin (nA a) hall]
      refine kk t ?_ hfr
      have e : F = felled a c := by
        funext i
        refine propext ⟨fun q => hFn i q, fun q => ?_⟩
        rcases q.2 with q2 | q2
        · rw [q2]
          exact hF
        · rcases hall i q.1 with z | z
          · exact z
          · omega
      rw [← e]
      exact h
    · have e1 := gF_add (a := a) (c := c) (F := F) q1 (nA a)
      have e2 := cF_add (F := F) q1 (nA a)
      rw [if_pos hd] at e1 e2
      rw [← e1]
      refine ih (fun i => F i ∨ i = d) t' (Or.inl hF) (fun i q => ?_) ht' hfr' (by omega)
      rcases q with q | q
      · exact hFn i q
      · rw [q]
        exact ⟨hd, Or.inr q2⟩
theorem pM_lossOf {a : AS} {μ : St} (h : RepM a μ) (hb : Bd a) (hs : Sm a) (hi : Iv a) {c : Nat} (hc : c < nA a) {Φ : Int32 → St → Prop} (kk : ∀ t, RepM (midA a c (felled a c)) t → sFr μ t → Φ (nI (goneOf a c (nA a))) t) : wpX10_lossOf (nI c) μ Φ := by
  unfold wpX10_lossOf
  have hn := hb.1
  have hl0 : Bl a := by
    have := mid_Bl hb hs hc (F := fun _ => False)
    rw [mid_none] at this
    exact this
  refine ⟨pk_in c 5 (by omega), ?_⟩
  rw [rd_nI _ _ (by omega), h.1.2.2.2.1 c (by omega)]
  refine pM_falls h hl0 (by omega) (hb.2.2.1 c (by omega)) (fun t ht f1 f2 => ⟨nA a + 2, ?_⟩)
  have hm : midA a c (fun i => False ∨ i = c) = fallA a c (wri a c) := by
    have := mid_step (a := a) (c := c) (d := c) (F := fun _ => False) (fun q => q)
    rw [mid_none, keep_own] at this
    exact this.symm
  rw [← hm] at ht
  have hg : gF a c (fun i => False ∨ i = c) (nA a) = now a c - wri a c := by
    have := gF_add (a := a) (c := c) (F := fun _ => False) (d := c) (fun q => q) (nA a)
    rw [if_pos hc, keep_own] at this
    rw [this]
    have z : ∀ n, gF a c (fun _ => False) n = 0 := by
      intro n
      induction n with
      | zero => rfl
      | succ n ih =>
        rw [gF_s, ih, if_neg (fun q => q)]
    rw [z]
    omega
  rw [← hg]
  have hcn : cF (fun i => False ∨ i = c) (nA a) < nA a + 1 := by
    have z : ∀ F n, cF F n ≤ n := by
      intro F n
      induction n with
      | zero => exact Nat.le_refl 0
      | succ n ih =>
        rw [cF_s]
        by_cases q : F n
        · rw [if_pos q]
          omega
        · rw [if_neg q]
          omega
    have := z (fun i => False ∨ i = c) (nA a)
    omega
  exact lM_loss14 hb hs hi hc kk (nA a + 1) (fun i => False ∨ i = c) t (Or.inr rfl) (fun i q => by rcases q with q | q; exact q.elim; rw [q]; exact ⟨hc, Or.inl rfl⟩) ht ⟨f1, f2⟩ hcn
theorem lM_isTooOld {a : AS} {μ : St} (h : RepM a μ) (hb : Bd a) {Φ : Int32 → St → Prop} (kk : Φ (b01 (∃ c, c < nA a ∧ 60 ≤ life a c)) μ) :
    ∀ (N i : Nat) (z : Int32), i ≤ nA a → nA a - i < N → z = b01 (∃ c, c < i ∧ 60 ≤ life a c) → wlX10_isTooOld_4 Φ N z (nI i) μ := by
  have hn := hb.1
  intro N
  induction N with
  | zero =>
    intro i z h1 h2
    omega
  | succ N ih =>
    intro i z hi hN ez
    show wlX10_isTooOld_4_body Φ (wlX10_isTooOld_4 Φ N) z (nI i) μ
    unfold wlX10_isTooOld_4_body wbX10_isTooOld_32
    rw [h.1.1]
    refine pk_le (nA a) i (fun h1 => ?_) (fun h1 => ?_)
    · subst ez
      refine ⟨b01_n _, ?_⟩
      have e : i = nA a := by omega
      subst e
      exact kk
    · have e1 := h.1.2.1 i (by omega)
      have s1 := hb.2.2.2.2.1 i (by omega)
      rw [rd_nI _ _ (by omega), e1]
      subst ez
      refine brB (fun hn1 => ⟨pk_in i 5 (by omega), pk_lt (life a i) 60 (fun h2 y hy => ?_) (fun h2 y hy => ?_)⟩) (fun hp y hy => ?_)
      · rw [hy, nI_1]
        refine ih (i + 1) _ (by omega) (by omega) ?_
        rw [b01_f]
        rintro ⟨c, p1, p2⟩
        by_cases e : c = i
        · subst e
          omega
        · exact hn1 ⟨c, by omega, p2⟩
      · rw [hy, nI_1]
        refine ih (i + 1) _ (by omega) (by omega) ?_
        rw [b01_t]
        exact ⟨i, by omega, h2⟩
      · rw [hy, nI_1]
        refine ih (i + 1) _ (by omega) (by omega) ?_
        rw [b01_t]
        obtain ⟨c, p1, p2⟩ := hp
        exact ⟨c, by omega, p2⟩
theorem pM_isTooOld {a : AS} {μ : St} (h : RepM a μ) (hb : Bd a) {Φ : Int32 → St → Prop} (kk : Φ (b01 (∃ c, c < nA a ∧ 60 ≤ life a c)) μ) : wpX10_isTooOld μ Φ := by
  unfold wpX10_isTooOld
  refine ⟨_, lM_isTooOld h hb kk (nA a + 1) 0 _ (Nat.zero_le _) (by omega) ?_⟩
  rw [b01_f]
  rintro ⟨c, p1, -⟩
  omega
theorem fel_now {a : AS} (hb : Bd a) {c d : Nat} (hc : c < nA a) (hd : d < nA a) : now (midA a c (felled a c)) d = keep a c d := by
  by_cases h : felled a c d
  · exact mid_now.1 h
  · rw [mid_now.2 h]
    have h1 := keep_le hb (d := d) hc
    have h2 : ¬ keep a c d < now a d := fun q => h ⟨hd, Or.inr q⟩
    omega
theorem loss_def (a : AS) (c t i j k : Nat) : lossA a c t i j k = @ite Nat (t = 1 ∧ felled a c i) (Classical.propDecidable _) (a 1 i j k + 1)
  (@ite Nat (t = 2 ∧ felled a c i) (Classical.propDecidable _) (keep a c i)
  (@ite Nat (t = 3 ∧ felled a c i) (Classical.propDecidable _) (if wri a i < keep a c i then wri a i else keep a c i)
  (@ite Nat (t = 5 ∧ felled a c i ∧ j = life a i) (Classical.propDecidable _) (keep a c i)
  (@ite Nat (t = 19 ∧ sst a i = 0 ∧ keep a c (sck a i) < spg a i) (Classical.propDecidable _) 2
  (if t = 22 then a 22 i j k + goneOf a c (nA a) else a t i j k))))) := rfl
theorem loss_mid {a : AS} {c t : Nat} (h1 : t ≠ 19) (h2 : t ≠ 22) : lossA a c t = midA a c (felled a c) t := by
  funext i j k
  rw [loss_def, mid_def, if_neg (c := t = 19 ∧ _) (fun q => h1 q.1), if_neg (c := t = 22) h2]
theorem loss_sst {a : AS} {c k : Nat} : (sst a k = 0 ∧ keep a c (sck a k) < spg a k → sst (lossA a c) k = 2) ∧ (¬ (sst a k = 0 ∧ keep a c (sck a k) < spg a k) → sst (lossA a c) k = sst a k) := by
  constructor
  · intro h
    show lossA a c 19 k 0 0 = _
    rw [loss_def, if_neg (by rintro ⟨q, -⟩; omega), if_neg (by rintro ⟨q, -⟩; omega), if_neg (by rintro ⟨q, -⟩; omega), if_neg (by rintro ⟨q, -⟩; omega), if_pos ⟨rfl, h⟩]
  · intro h
    show lossA a c 19 k 0 0 = _
    rw [loss_def, if_neg (by rintro ⟨q, -⟩; omega), if_neg (by rintro ⟨q, -⟩; omega), if_neg (by rintro ⟨q, -⟩; omega), if_neg (by rintro ⟨q, -⟩; omega), if_neg (fun q => h q.2), if_neg (by decide)]
theorem loss_gon {a : AS} {c : Nat} : gon (lossA a c) = gon a + goneOf a c (nA a) := by
  show lossA a c 22 0 0 0 = _
  rw [loss_def, if_neg (by rintro ⟨q, -⟩; omega), if_neg (by rintro ⟨q, -⟩; omega), if_neg (by rintro ⟨q, -⟩; omega), if_neg (by rintro ⟨q, -⟩; omega), if_neg (by rintro ⟨q, -⟩; omega), if_pos rfl]
