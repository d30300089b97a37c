theorem lM_tries75 {a : AS} {μ : St} (h : RepM a μ) (hb : Bd a) (hs : Sm a) {c g : Nat} (hc : c < nA a) {μ1 : St} (hm : RepM (midA a c (felled a c)) μ1) (hfr : ∀ b, b ≠ 1 → b ≠ 2 → b ≠ 3 → b ≠ 5 → b ≠ 14 → μ1.2 b = μ.2 b) (ha : asd a μ1 (nA a)) {Φ : Int32 → St → Prop} (kk : ∀ t, RepM a t → t.1 19 = nI (fellN a c (nA a)) → t.1 20 = nI (lostN a c (scn a)) → Φ (nI g) t) :
    ∀ (N k : Nat) (t : St), k ≤ scn a → scn a - k < N → (∀ j, j ≠ 19 → j ≠ 20 → t.1 j = μ.1 j) → t.1 19 = 0 → t.1 20 = nI (lostN a c k) → t.2 = μ1.2 → wlX10_tries_75 Φ N (nI g) (nI k) t := by
  have hn := hb.1
  have hsc := hb.2.2.2.2.2.2.1
  intro N
  induction N with
  | zero =>
    intro k t h1 h2
    omega
  | succ N ih =>
    intro k t hk hN f1 f19 f20 f2
    show wlX10_tries_75_body Φ (wlX10_tries_75 Φ N) (nI g) (nI k) t
    unfold wlX10_tries_75_body wbX10_tries_131 wbX10_tries_132
    rw [f1 13 (by decide) (by decide), h.2.2.2.2.1.1, nI_lit 3, mulI, nI_lit 2, addI, nI_lit 1, addI]
    refine pk_le (scn a) k (fun h1 => ⟨nA a + 1, ?_⟩) (fun h1 => ?_)
    · have e : k = scn a := by omega
      subst e
      refine lM_tries144 h hb hs hc hm hfr ha kk (nA a + 1) 0 t (Nat.zero_le _) (by omega) f1 f19 f20 (fun b _ _ _ => by rw [f2]) (fun i hi => ?_) (fun i hi => ?_) (fun i hi => ?_)
      · rw [if_neg (Nat.not_lt_zero i), f2]
        exact hm.1.2.1 i hi
      · rw [if_neg (Nat.not_lt_zero i), f2]
        exact hm.1.2.2.1 i hi
      · rw [if_neg (Nat.not_lt_zero i), f2]
        exact hm.1.2.2.2.1 i hi
    · have s9 := hs.2.2.2.2.2.2.2.1 k h1
      have e11 : t.2 11 = μ.2 11 := by rw [f2]; exact hfr 11 (by decide) (by decide) (by decide) (by decide) (by decide)
      have enow : t.2 2 (sck a k) = nI (keep a c (sck a k)) := by
        rw [f2, hm.1.2.2.1 (sck a k) (by omega), fel_now hb hc s9.1]
      have hkk : keep a c (sck a k) ≤ 23 := Nat.le_trans (keep_le hb hc) (hb.2.1 _ (by omega))
      rw [rd_nI t 11 (by omega), rd_nI t 11 (by omega), rd_nI t 11 (by omega), e11, h.2.2.2.2.1.2.1 k h1, h.2.2.2.2.1.2.2.1 k h1, h.2.2.2.2.1.2.2.2.1 k h1, rd_nI t 2 (by omega), enow]
      have nxt : ∀ v : Nat, lostN a c k + v = lostN a c (k + 1) → (∀ t1 : St, t1 = setI t 20 (t.1 20 + nI v) → (∀ y2 : Int32, y2 = nI k + nI 1 → wlX10_tries_75 Φ N (nI g) y2 t1)) := by
        intro v hv t1 e1 y ey
        rw [ey, addI]
        refine ih (k + 1) t1 (by omega) (by omega) (fun j j1 j2 => ?_) ?_ ?_ ?_
        · rw [e1, setI_1, if_neg j2]
          exact f1 j j1 j2
        · rw [e1, setI_1, if_neg (by decide)]
          exact f19
        · rw [e1, setI_1, if_pos rfl, f20, addI, hv]
        · rw [e1, setI_2]
          exact f2
      refine ⟨pk_in (3 * k + 2) 90 (by omega), pk_eq (sst a k) 0 (fun q => ⟨pk_in (3 * k + 1) 90 (by omega), pk_in (3 * k) 90 (by omega), pk_in (sck a k) 5 (by omega), pk_le (spg a k) (keep a c (sck a k)) (fun q2 => ?_) (fun q2 => ?_)⟩) (fun q => ?_)⟩
      · exact nxt 0 (by rw [lostN_s, if_neg (fun z => by omega)])
      · exact nxt 1 (by rw [lostN_s, if_pos ⟨q, q2⟩])
      · exact nxt 0 (by rw [lostN_s, if_neg (fun z => q z.1)])
theorem lM_tries2 {a : AS} (hb : Bd a) (hs : Sm a) (hi : Iv a) {c : Nat} (hc : c < nA a) {Φ : Int32 → St → Prop} (kk : ∀ t, RepM a t → t.1 19 = nI (fellN a c (nA a)) → t.1 20 = nI (lostN a c (scn a)) → Φ (nI (goneOf a c (nA a))) t) :
    ∀ (N d : Nat) (t : St), d ≤ nA a → nA a - d < N → RepM a t → asd a t d → wlX10_tries_2 Φ N (nI c) (nI d) t := by
  have hn := hb.1
  intro N
  induction N with
  | zero =>
    intro d t h1 h2
    omega
  | succ N ih =>
    intro d t hd hN h ha
    show wlX10_tries_2_body Φ (wlX10_tries_2 Φ N) (nI c) (nI d) t
    unfold wlX10_tries_2_body
    rw [h.1.1]
    refine pk_le (nA a) d (fun h1 => ?_) (fun h1 => ?_)
    · have e : d = nA a := by omega
      subst e
      refine pM_lossOf h hb hs hi hc (fun t2 ht2 fr t4 e4 t5 e5 => ⟨scn a + 1, ?_⟩)
      refine lM_tries75 h hb hs hc (μ1 := t2) ht2 (fun b b1 b2 b3 b5 _ => fr.2 b b1 b2 b3 b5) (fun d hd => by rw [fr.2 14 (by decide) (by decide) (by decide) (by decide)]; exact ha d hd) kk (scn a + 1) 0 t5 (Nat.zero_le _) (by omega) (fun j j1 j2 => ?_) ?_ ?_ ?_
      · rw [e5, setI_1, if_neg j2, e4, setI_1, if_neg j1, fr.1]
      · rw [e5, setI_1, if_neg (by decide), e4, setI_1, if_pos rfl]
      · rw [e5, setI_1, if_pos rfl]
        rfl
      · rw [e5, setI_2, e4, setI_2]
    · have hd5 : d < 5 := by omega
      rw [nI_lit 5, nI_lit 10, addI, addI]
      refine ⟨pk_in d 5 hd5, pk_in d 15 (by omega), fun t8 e8 => ⟨pk_in d 5 hd5, pk_in (5 + d) 15 (by omega), fun t11 e11 => ⟨pk_in d 5 hd5, pk_in (10 + d) 15 (by omega), fun t14 e14 y ey => ?_⟩⟩⟩
      rw [rd_nI _ _ (by omega), wr_nI _ _ _ (by omega), h.1.2.1 d hd5] at e8
      have b8 : t8.2 2 d = nI (now a d) := by rw [e8, w2_ne _ _ _ (by decide)]; exact h.1.2.2.1 d hd5
      rw [rd_nI _ _ (by omega), wr_nI _ _ _ (by omega), b8] at e11
      have b11 : t11.2 3 d = nI (wri a d) := by rw [e11, w2_ne _ _ _ (by decide), e8, w2_ne _ _ _ (by decide)]; exact h.1.2.2.2.1 d hd5
      rw [rd_nI _ _ (by omega), wr_nI _ _ _ (by omega), b11] at e14
      rw [ey, nI_1]
      subst e14
      subst e11
      subst e8
      refine ih (d + 1) _ (by omega) (by omega) h (fun i hi => ?_)
      rw [w2_at, w2_at, w2_at, w2_at, w2_at, w2_at, w2_at, w2_at, w2_at]
      by_cases q : i = d
      · subst q
        rw [if_neg (show ¬ i = 10 + i by omega), if_neg (show ¬ i = 5 + i by omega), if_pos (show i = i from rfl), if_neg (show ¬ 5 + i = 10 + i by omega), if_pos (show 5 + i = 5 + i from rfl), if_pos (show 10 + i = 10 + i from rfl)]
        exact ⟨rfl, rfl, rfl⟩
      · have := ha i (by omega)
        rw [if_neg (show ¬ i = 10 + d by omega), if_neg (show ¬ i = 5 + d by omega), if_neg (show ¬ i = d from q), if_neg (show ¬ 5 + i = 10 + d by omega), if_neg (show ¬ 5 + i = 5 + d by omega), if_neg (show ¬ 5 + i = d by omega), if_neg (show ¬ 10 + i = 10 + d by omega), if_neg (show ¬ 10 + i = 5 + d by omega), if_neg (show ¬ 10 + i = d by omega)]
        exact this
theorem pM_tries {a : AS} {μ : St} (h : RepM a μ) (hb : Bd a) (hs : Sm a) (hi : Iv a) {c : Nat} (hc : c < nA a) {Φ : Int32 → St → Prop} (kk : ∀ t, RepM a t → t.1 19 = nI (fellN a c (nA a)) → t.1 20 = nI (lostN a c (scn a)) → Φ (nI (goneOf a c (nA a))) t) : wpX10_tries (nI c) μ Φ := by
  unfold wpX10_tries
  exact ⟨nA a + 1, lM_tries2 hb hs hi hc kk (nA a + 1) 0 μ (Nat.zero_le _) (by omega) h (fun d hd => absurd hd (Nat.not_lt_zero d))⟩
/-- by whose loss most pages go, of the first b -/
noncomputable def wst (a : AS) : Nat → Nat
  | 0 => 0
  | b + 1 => if goneOf a (wst a b) (nA a) < goneOf a b (nA a) then b else wst a b
theorem wst_le (a : AS) : ∀ b, 1 ≤ b → wst a b < b := by
  intro b
  induction b with
  | zero => intro h; omega
  | succ b ih =>
    intro _
    show (if _ then b else wst a b) < b + 1
    by_cases q : goneOf a (wst a b) (nA a) < goneOf a b (nA a)
    · rw [if_pos q]
      omega
    · rw [if_neg q]
      by_cases q2 : b = 0
      · subst q2
        exact Nat.zero_lt_one
      · have := ih (by omega)
        omega
theorem wst_1 (a : AS) : wst a 1 = 0 := by
  show (if _ then 0 else 0) = 0
  by_cases q : goneOf a (wst a 0) (nA a) < goneOf a 0 (nA a)
  · rw [if_pos q]
  · rw [if_neg q]
theorem lM_worst {a : AS} (hb : Bd a) (hs : Sm a) (hi : Iv a) {x : Int32} {Φ : Int32 → St → Prop} (kk : ∀ t, RepM a t → (x = 0 → Φ (nI (wst a (nA a))) t) ∧ (¬ x = 0 → Φ (nI (goneOf a (wst a (nA a)) (nA a))) t)) :
    ∀ (N b : Nat) (t : St), 1 ≤ b → b ≤ nA a → nA a - b < N → RepM a t → wlX10_worst_26 Φ N x (nI (wst a b)) (nI (goneOf a (wst a b) (nA a))) (nI b) t := by
  have hn := hb.1
  intro N
  induction N with
  | zero =>
    intro b t h0 h1 h2
    omega
  | succ N ih =>
    intro b t hb1 hbn hN h
    show wlX10_worst_26_body Φ (wlX10_worst_26 Φ N) x (nI (wst a b)) (nI (goneOf a (wst a b) (nA a))) (nI b) t
    unfold wlX10_worst_26_body wbX10_worst_55 wbX10_worst_68
    rw [h.1.1]
    refine pk_le (nA a) b (fun h1 => ?_) (fun h1 => ?_)
    · have e : b = nA a := by omega
      subst e
      exact kk t h
    · refine pM_tries h hb hs hi h1 (fun t' ht' _ _ => ?_)
      have g1 := goneOf_le hb (c := wst a b) (nA a) hn.2
      have g2 := goneOf_le hb (c := b) (nA a) hn.2
      have es : wst a (b + 1) = if goneOf a (wst a b) (nA a) < goneOf a b (nA a) then b else wst a b := rfl
      refine pk_le (goneOf a b (nA a)) (goneOf a (wst a b) (nA a)) (fun q => pk_le (goneOf a b (nA a)) (goneOf a (wst a b) (nA a)) (fun _ y ey => ?_) (fun q2 => absurd q2 (by omega))) (fun q => pk_le (goneOf a b (nA a)) (goneOf a (wst a b) (nA a)) (fun q2 => absurd q2 (by omega)) (fun _ y ey => ?_))
      · have := ih (b + 1) t' (by omega) (by omega) (by omega) ht'
        rw [es, if_neg (by omega)] at this
        rw [ey, nI_1]
        exact this
      · have := ih (b + 1) t' (by omega) (by omega) (by omega) ht'
        rw [es, if_pos (by omega)] at this
        rw [ey, nI_1]
        exact this
theorem lM_isFirm {a : AS} {μ : St} (h : RepM a μ) (hb : Bd a) (hs : Sm a) {c k : Nat} (hc : c < 5) (hk : k ≤ now a c) {Φ : Int32 → St → Prop} (kk : Φ (b01 (writ a c k)) μ) :
    ∀ (N i : Nat) (z : Int32), i ≤ nA a → nA a - i < N → z = b01 (∀ d, d < i → rsp a c k d ≤ wri a d) → wlX10_isFirm_5 Φ N (nI c) (nI k) z (nI i) μ := by
  have hn := hb.1
  have h23 := hb.2.1 c hc
  intro N
  induction N with
  | zero =>
    intro i z h1 h2
    omega
  | succ N ih =>
    intro i z hi hN ez
    show wlX10_isFirm_5_body Φ (wlX10_isFirm_5 Φ N) (nI c) (nI k) z (nI i) μ
    unfold wlX10_isFirm_5_body wbX10_isFirm_44 wbX10_isFirm_45 wpX10_restOf wpX10_pageOf
    dsimp only
    rw [h.1.1, nI_lit 24, mulI, addI, nI_lit 5, mulI, addI]
    refine pk_le (nA a) i (fun h1 => ?_) (fun h1 => ?_)
    · subst ez
      refine ⟨b01_n _, ?_⟩
      have e : i = nA a := by omega
      subst e
      exact kk
    · have e1 := h.2.2.1.2.2.2 c hc k hk i (by omega)
      have e2 := h.1.2.2.2.1 i (by omega)
      have s1 := hs.2.2.1 c hc k hk i (by omega)
      have s2 := hb.2.2.1 i (by omega)
      have s3 := hb.2.1 i (by omega)
      rw [rd_nI μ 3 (by omega), rd_nI μ 9 (by omega), e1, e2]
      subst ez
      refine brB (fun hn1 y ey => ?_) (fun hp => ⟨pk_in (5 * (24 * c + k) + i) 600 (by omega), pk_in i 5 (by omega), pk_lt (wri a i) (rsp a c k i) (fun q y ey => ?_) (fun q y ey => ?_)⟩)
      · rw [ey, nI_1]
        refine ih (i + 1) _ (by omega) (by omega) ?_
        rw [b01_f]
        exact fun q => hn1 (fun d hd => q d (by omega))
      · rw [ey, nI_1]
        refine ih (i + 1) _ (by omega) (by omega) ?_
        rw [b01_f]
        intro z
        have := z i (by omega)
        omega
      · rw [ey, nI_1]
        refine ih (i + 1) _ (by omega) (by omega) ?_
        rw [b01_t]
        intro d hd
        by_cases e : d = i
        · subst e
          exact q
        · exact hp d (by omega)
theorem pM_isFirm {a : AS} {μ : St} (h : RepM a μ) (hb : Bd a) (hs : Sm a) {c k : Nat} (hc : c < 5) (hk : k ≤ now a c) {Φ : Int32 → St → Prop} (kk : Φ (b01 (writ a c k)) μ) : wpX10_isFirm (nI c) (nI k) μ Φ := by
  unfold wpX10_isFirm
  refine ⟨_, lM_isFirm h hb hs hc hk kk (nA a + 1) 0 _ (Nat.zero_le _) (by omega) ?_⟩
  rw [b01_t]
  exact fun d hd => absurd hd (Nat.not_lt_zero d)
theorem lM_firmOf {a : AS} {μ : St} (h : RepM a μ) (hb : Bd a) (hs : Sm a) (hi : Iv a) {c : Nat} (hc : c < nA a) {Φ : Int32 → St → Prop} (kk : Φ (nI (firm a c)) μ) :
    ∀ (k : Nat), k ≤ now a c → firm a c = grt (writ a c) k → wlX10_firmOf_7 Φ (k + 1) (nI c) (nI k) μ := by
  have hn := hb.1
  intro k
  induction k with
  | zero =>
    intro hk e
    show wlX10_firmOf_7_body Φ (wlX10_firmOf_7 Φ 0) (nI c) (nI 0) μ
    unfold wlX10_firmOf_7_body
    refine pM_isFirm h hb hs (by omega) hk (brB (fun q => absurd ?_ q) (fun q => ?_))
    · intro d hd
      rw [hi.2.2.2.2.2.2.2.2.2.1 c hc d hd]
      exact Nat.zero_le _
    · rw [e] at kk
      exact kk
  | succ k ih =>
    intro hk e
    show wlX10_firmOf_7_body Φ (wlX10_firmOf_7 Φ (k + 1)) (nI c) (nI (k + 1)) μ
    unfold wlX10_firmOf_7_body
    refine pM_isFirm h hb hs (by omega) hk (brB (fun q y ey => ?_) (fun q => ?_))
    · rw [ey, pk_m1]
      refine ih (by omega) ?_
      rw [e]
      show @ite Nat (writ a c (k + 1)) (Classical.propDecidable _) _ _ = _
      rw [if_neg q]
    · have : firm a c = k + 1 := by
        rw [e]
        show @ite Nat (writ a c (k + 1)) (Classical.propDecidable _) _ _ = _
        rw [if_pos q]
      rw [← this]
      exact kk
theorem pM_firmOf {a : AS} {μ : St} (h : RepM a μ) (hb : Bd a) (hs : Sm a) (hi : Iv a) {c : Nat} (hc : c < nA a) {Φ : Int32 → St → Prop} (kk : Φ (nI (firm a c)) μ) : wpX10_firmOf (nI c) μ Φ := by
  unfold wpX10_firmOf
  have hn := hb.1
  refine ⟨pk_in c 5 (by omega), fun y ey => ⟨now a c + 1, ?_⟩⟩
  rw [rd_nI _ _ (by omega), h.1.2.2.1 c (by omega)] at ey
  rw [ey]
  exact lM_firmOf h hb hs hi hc kk (now a c) (Nat.le_refl _) rfl
