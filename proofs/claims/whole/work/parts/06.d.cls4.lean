-- THE CLASS: beginning, cutting, sayings
def BgC (σ t : St) (c : Nat) : Prop := (t.1 (32 * (5 + c) + 1) = 0 ∧ t.1 (32 * (5 + c) + 2) = 0 ∧ t.1 (32 * (5 + c) + 3) = 0 ∧ t.1 (32 * (5 + c) + 4) = 0) ∧ (∀ j, j ≠ 32 * (5 + c) + 1 → j ≠ 32 * (5 + c) + 2 → j ≠ 32 * (5 + c) + 3 → j ≠ 32 * (5 + c) + 4 → t.1 j = σ.1 j) ∧ (t.2 (28 + 3 * c) 0 = 0 ∧ t.2 (29 + 3 * c) 0 = 0 ∧ ∀ e, e < 5 → t.2 (16 + 2 * c) e = 0 ∧ t.2 (17 + 2 * c) e = 0) ∧ (∀ b, b ≠ 16 + 2 * c → b ≠ 17 + 2 * c → b ≠ 28 + 3 * c → b ≠ 29 + 3 * c → t.2 b = σ.2 b)
theorem lC_beginK {σ : St} {c : Nat} (hc : c < 5) {Φ : St → Prop} (kk : ∀ t, t.1 = σ.1 → (∀ b, b ≠ 16 + 2 * c → b ≠ 17 + 2 * c → t.2 b = σ.2 b) → (∀ e, e < 5 → t.2 (16 + 2 * c) e = 0 ∧ t.2 (17 + 2 * c) e = 0) → Φ t) :
    ∀ (N m : Nat) (t : St), m ≤ 5 → 5 - m < N → t.1 = σ.1 → (∀ b, b ≠ 16 + 2 * c → b ≠ 17 + 2 * c → t.2 b = σ.2 b) → (∀ e, e < m → t.2 (16 + 2 * c) e = 0 ∧ t.2 (17 + 2 * c) e = 0) → wlX0_begin_40 (5 + c) Φ N (nI m) t := by
  obtain ⟨L1, L2, L3, L4, L5⟩ := ln_a hc
  obtain ⟨P1, P2, P3, P4, P5⟩ := pl_a c
  intro N
  induction N with
  | zero => intro m t h1 h2; omega
  | succ N ih =>
    intro m t hm hN h1 h2 h3
    show wlX0_begin_40_body (5 + c) Φ (wlX0_begin_40 (5 + c) Φ N) (nI m) t
    unfold wlX0_begin_40_body
    refine pk_le 5 m (fun q => ?_) (fun q => ?_)
    · have e : m = 5 := by omega
      subst e
      exact kk t h1 h2 h3
    · rw [show (0 : Int32) = nI 0 from rfl]
      refine pC_set (by rw [L4]; omega) (by rw [L5]; omega) (fun y3 e3 => ?_)
      rw [e3, nI_1, P4, P5]
      refine ih (m + 1) _ (by omega) (by omega) h1 (fun b b1 b2 => ?_) (fun e he => ?_)
      · rw [w2_ne _ _ _ b2, w2_ne _ _ _ b1]
        exact h2 b b1 b2
      · constructor
        · rw [w2_ne _ _ _ (by omega), w2_at]
          by_cases z : e = 5 * 0 + m
          · rw [if_pos z]; rfl
          · rw [if_neg z]
            exact (h3 e (by omega)).1
        · rw [w2_at]
          by_cases z : e = 5 * 0 + m
          · rw [if_pos z]; rfl
          · rw [if_neg z, w2_ne _ _ _ (by omega)]
            exact (h3 e (by omega)).2
theorem pC_beginK {σ : St} {c : Nat} (hc : c < 5) {Φ : St → Prop} (kk : ∀ t, BgC σ t c → Φ t) : wpX0_begin (5 + c) σ Φ := by
  unfold wpX0_begin
  obtain ⟨L1, L2, L3, L4, L5⟩ := ln_a hc
  obtain ⟨P1, P2, P3, P4, P5⟩ := pl_a c
  intro t1 e1 t2 e2 t3 e3 t4 e4
  rw [show (0 : Int32) = nI 0 from rfl]
  refine pC_put (by rw [L1]; decide) (pC_put (by rw [L2]; decide) ⟨6, ?_⟩)
  refine lC_beginK hc (fun t h1 h2 h3 => kk t ?_) 6 0 _ (by omega) (by omega) rfl (fun _ _ _ => rfl) (fun e he => absurd he (Nat.not_lt_zero e))
  rw [P1, P2] at h2
  have F : t.1 = t4.1 := h1
  refine ⟨⟨?_, ?_, ?_, ?_⟩, fun j j1 j2 j3 j4 => ?_, ⟨?_, ?_, h3⟩, fun b b1 b2 b3 b4 => ?_⟩
  · rw [F, e4, setI_1, if_neg (by omega), e3, setI_1, if_neg (by omega), e2, setI_1, if_neg (by omega), e1, setI_1, if_pos rfl]
  · rw [F, e4, setI_1, if_neg (by omega), e3, setI_1, if_neg (by omega), e2, setI_1, if_pos rfl]
  · rw [F, e4, setI_1, if_neg (by omega), e3, setI_1, if_pos rfl]
  · rw [F, e4, setI_1, if_pos rfl]
  · rw [F, e4, setI_1, if_neg j4, e3, setI_1, if_neg j3, e2, setI_1, if_neg j2, e1, setI_1, if_neg j1]
  · rw [h2 _ (by omega) (by omega), w2_ne _ _ _ (by omega), w2_at, if_pos rfl]; rfl
  · rw [h2 _ (by omega) (by omega), w2_at, if_pos rfl]; rfl
  · rw [h2 _ b1 b2, w2_ne _ _ _ b4, w2_ne _ _ _ b3, e4, e3, e2, e1]
    rfl
def BgI (σ t : St) (i : Nat) : Prop := (∀ c, c < i → (t.1 (32 * (5 + c) + 1) = 0 ∧ t.1 (32 * (5 + c) + 2) = 0 ∧ t.1 (32 * (5 + c) + 3) = 0 ∧ t.1 (32 * (5 + c) + 4) = 0) ∧ (t.2 (28 + 3 * c) 0 = 0 ∧ t.2 (29 + 3 * c) 0 = 0 ∧ ∀ e, e < 5 → t.2 (16 + 2 * c) e = 0 ∧ t.2 (17 + 2 * c) e = 0)) ∧ (∀ j, (j < 160 ∨ 320 ≤ j) → t.1 j = σ.1 j) ∧ (∀ b, 43 ≤ b → t.2 b = σ.2 b)
theorem lC_begin {σ : St} {Φ : St → Prop} (kk : ∀ t, BgI σ t 5 → Φ t) : ∀ (N i : Nat) (t : St), i ≤ 5 → 5 - i < N → BgI σ t i → wlX2_begin_27 Φ N (nI i) t := by
  intro N
  induction N with
  | zero => intro i t h1 h2; omega
  | succ N ih =>
    intro i t hi hN h
    show wlX2_begin_27_body Φ (wlX2_begin_27 Φ N) (nI i) t
    unfold wlX2_begin_27_body
    refine pk_le 5 i (fun q => ?_) (fun q => ⟨pk_in i 5 q, ?_⟩)
    · have e : i = 5 := by omega
      subst e
      exact kk t h
    · rw [nI_clamp (by omega)]
      refine pC_beginK q (fun t3 h3 y4 e4 => ?_)
      rw [e4, nI_1]
      obtain ⟨b1, b2, b3, b4⟩ := h3
      obtain ⟨i1, i2, i3⟩ := h
      refine ih (i + 1) t3 (by omega) (by omega) ⟨fun c hc => ?_, fun j hj => ?_, fun b hb => ?_⟩
      · by_cases e : c = i
        · subst e
          exact ⟨b1, b3⟩
        · obtain ⟨⟨z1, z2, z3, z4⟩, z5, z6, z7⟩ := i1 c (by omega)
          rw [b2 _ (by omega) (by omega) (by omega) (by omega), b2 _ (by omega) (by omega) (by omega) (by omega), b2 _ (by omega) (by omega) (by omega) (by omega), b2 _ (by omega) (by omega) (by omega) (by omega), b4 _ (by omega) (by omega) (by omega) (by omega), b4 _ (by omega) (by omega) (by omega) (by omega), b4 _ (by omega) (by omega) (by omega) (by omega), b4 _ (by omega) (by omega) (by omega) (by omega)]
          exact ⟨⟨z1, z2, z3, z4⟩, z5, z6, z7⟩
      · rw [b2 _ (by omega) (by omega) (by omega) (by omega)]
        exact i2 j hj
      · rw [b4 _ (by omega) (by omega) (by omega) (by omega)]
        exact i3 b hb
theorem pC_begin0 {σ : St} {v : Nat} {Φ : St → Prop} (kk : ∀ t, t.1 0 = nI v → t.1 1 = 0 → t.1 64 = 0 → t.1 96 = 0 → t.1 97 = 0 → (∀ j, 320 ≤ j → t.1 j = σ.1 j) → (∀ b, 43 ≤ b → t.2 b = σ.2 b) → (∀ c, c < 5 → (t.1 (32 * (5 + c) + 1) = 0 ∧ t.1 (32 * (5 + c) + 2) = 0 ∧ t.1 (32 * (5 + c) + 3) = 0 ∧ t.1 (32 * (5 + c) + 4) = 0) ∧ (t.2 (28 + 3 * c) 0 = 0 ∧ t.2 (29 + 3 * c) 0 = 0 ∧ ∀ e, e < 5 → t.2 (16 + 2 * c) e = 0 ∧ t.2 (17 + 2 * c) e = 0)) → Φ t) : wpX2_begin (nI v) σ Φ := by
  unfold wpX2_begin wpX6_begin
  intro t1 e1 t2 e2 t3 e3 t4 e4 t5 e5
  refine ⟨6, lC_begin (σ := t5) (fun t h => ?_) 6 0 t5 (by omega) (by omega) ⟨fun c hc => absurd hc (Nat.not_lt_zero c), fun _ _ => rfl, fun _ _ => rfl⟩⟩
  obtain ⟨i1, i2, i3⟩ := h
  subst e5 e4 e3 e2 e1
  refine kk t (i2 0 (by decide)) (i2 1 (by decide)) (i2 64 (by decide)) (i2 96 (by decide)) (i2 97 (by decide)) (fun j hj => ?_) i3 i1
  rw [i2 j (by omega), setI_1, if_neg (by omega), setI_1, if_neg (by omega), setI_1, if_neg (by omega), setI_1, if_neg (by omega), setI_1, if_neg (by omega)]
theorem repC_begin {a : AS} {t : St} {v : Nat} (h0 : t.1 0 = nI v) (h1 : t.1 1 = 0) (h64 : t.1 64 = 0) (h96 : t.1 96 = 0) (h97 : t.1 97 = 0) (hc : ∀ c, c < 5 → (t.1 (32 * (5 + c) + 1) = 0 ∧ t.1 (32 * (5 + c) + 2) = 0 ∧ t.1 (32 * (5 + c) + 3) = 0 ∧ t.1 (32 * (5 + c) + 4) = 0) ∧ (t.2 (28 + 3 * c) 0 = 0 ∧ t.2 (29 + 3 * c) 0 = 0 ∧ ∀ e, e < 5 → t.2 (16 + 2 * c) e = 0 ∧ t.2 (17 + 2 * c) e = 0)) (h6 : t.1 1888 = nI (bdn a) ∧ t.1 1889 = nI (non a) ∧ t.1 1890 = nI (fln a)) (h7 : C7 a t) (h8 : C8 a t) : RepC (beginA a v) t := by
  refine ⟨⟨h0, fun c q => (hc c q).1.1, fun c q => (hc c q).1.2.1, fun c q => (hc c q).1.2.2.1, fun c q => (hc c q).1.2.2.2⟩, fun c q l hl => absurd hl (Nat.not_lt_zero l), ⟨fun c q k hk => ?_, fun c q k hk => ?_, fun c q k hk d hd => ?_, fun c q k hk d hd => ?_⟩, ⟨h64, fun m hm => absurd hm (Nat.not_lt_zero m), fun m hm => absurd hm (Nat.not_lt_zero m), fun m hm => absurd hm (Nat.not_lt_zero m), fun m hm => absurd hm (Nat.not_lt_zero m), fun m hm => absurd hm (Nat.not_lt_zero m)⟩, ⟨h96, fun m hm => absurd hm (Nat.not_lt_zero m), fun m hm => absurd hm (Nat.not_lt_zero m), fun m hm => absurd hm (Nat.not_lt_zero m), h97, fun m hm => absurd hm (Nat.not_lt_zero m)⟩, ⟨h1, h6⟩, h7, h8⟩
  · have e : k = 0 := Nat.le_zero.mp hk
    rw [e]
    exact (hc c q).2.1
  · have e : k = 0 := Nat.le_zero.mp hk
    rw [e]
    exact (hc c q).2.2.1
  · have e : k = 0 := Nat.le_zero.mp hk
    rw [e, Nat.mul_zero, Nat.zero_add]
    exact ((hc c q).2.2.2 d hd).1
  · have e : k = 0 := Nat.le_zero.mp hk
    rw [e, Nat.mul_zero, Nat.zero_add]
    exact ((hc c q).2.2.2 d hd).2
theorem pC_begin {a : AS} {σ : St} (h : RepC a σ) {v : Nat} {Φ : St → Prop} (kk : ∀ t, RepC (beginA a v) t → Φ t) : wpX2_begin (nI v) σ Φ := by
  obtain ⟨-, -, -, -, -, ⟨k0, k1, k2, k3⟩, h7, h8⟩ := h
  refine pC_begin0 (fun t h0 h1 h64 h96 h97 hf hr hc => kk t (repC_begin h0 h1 h64 h96 h97 hc ?_ ?_ ?_))
  · rw [hf 1888 (by decide), hf 1889 (by decide), hf 1890 (by decide)]
    exact ⟨k1, k2, k3⟩
  · exact C7_fr h7 (hf _ (by decide)) (hr _ (by decide)) (fun _ _ _ => rfl)
  · exact C8_fr h8 (hf _ (by decide)) (fun j h1 h2 => hr j (by omega)) (fun _ _ _ => rfl)
theorem lC_isWritten {a : AS} {σ : St} (h : RepC a σ) (hI : Inv a) {c k : Nat} (hc : c < 5) (hk : k ≤ now a c) {Φ : Int32 → St → Prop} (kk : Φ (b01 (writ a c k)) σ) :
    ∀ (N i : Nat), i ≤ nA a → nA a - i < N → (∀ d, d < i → rsp a c k d ≤ wri a d) → wlX2_isWrittenBelow_2 Φ N (nI c) (nI k) (nI i) σ := by
  have hn := hI.1.1
  have h23 := hI.1.2.1 c hc
  obtain ⟨L1, L2, L3, L4, L5⟩ := ln_a hc
  obtain ⟨P1, P2, P3, P4, P5⟩ := pl_a c
  intro N
  induction N with
  | zero => intro i h1 h2; omega
  | succ N ih =>
    intro i hi hN hno
    show wlX2_isWrittenBelow_2_body Φ (wlX2_isWrittenBelow_2 Φ N) (nI c) (nI k) (nI i) σ
    unfold wlX2_isWrittenBelow_2_body
    rw [h.1.1]
    refine pk_le (nA a) i (fun q => ?_) (fun q => ?_)
    · rw [b01_t (show writ a c k from fun d hd => hno d (by omega))] at kk
      exact kk
    · have s1 := hI.2.1.2.2.1 c hc k hk i (by omega)
      have s2 := hI.1.2.2.1 i (by omega)
      have s3 := hI.1.2.1 i (by omega)
      refine pC_clerk hc (pC_pageOf (by rw [L5]; omega) (pC_clerk (by omega) ?_))
      rw [P5, h.2.2.1.2.2.2 c hc k hk i (by omega), h.1.2.2.2.1 i (by omega)]
      refine pk_le (rsp a c k i) (wri a i) (fun z y9 e9 => ?_) (fun z => ?_)
      · rw [e9, nI_1]
        refine ih (i + 1) (by omega) (by omega) (fun d hd => ?_)
        by_cases e : d = i
        · subst e; exact z
        · exact hno d (by omega)
      · rw [b01_f (fun y => by have := y i q; omega)] at kk
        exact kk
theorem pC_isWritten {a : AS} {σ : St} (h : RepC a σ) (hI : Inv a) {c k : Nat} (hc : c < 5) (hk : k ≤ now a c) {Φ : Int32 → St → Prop} (kk : Φ (b01 (writ a c k)) σ) : wpX2_isWrittenBelow (nI c) (nI k) σ Φ := by
  unfold wpX2_isWrittenBelow
  exact ⟨nA a + 1, lC_isWritten h hI hc hk kk (nA a + 1) 0 (Nat.zero_le _) (by omega) (fun d hd => absurd hd (Nat.not_lt_zero d))⟩
theorem grt_s (p : Nat → Prop) (k : Nat) : (p (k + 1) → grt p (k + 1) = k + 1) ∧ (¬ p (k + 1) → grt p (k + 1) = grt p k) := by
  constructor
  · intro h
    show @ite Nat (p (k + 1)) (Classical.propDecidable _) (k + 1) (grt p k) = _
    exact if_pos h
  · intro h
    show @ite Nat (p (k + 1)) (Classical.propDecidable _) (k + 1) (grt p k) = _
    exact if_neg h
theorem lC_firmPage {a : AS} {σ : St} (h : RepC a σ) (hI : Inv a) {c : Nat} (hc : c < 5) {Φ : Int32 → St → Prop} :
    ∀ k, k ≤ now a c → Φ (nI (grt (writ a c) k)) σ → wlX2_firmPage_9 Φ (k + 1) (nI c) (nI k) σ := by
  have h23 := hI.1.2.1 c hc
  intro k
  induction k with
  | zero =>
    intro _ kk
    show wlX2_firmPage_9_body Φ (wlX2_firmPage_9 Φ 0) (nI c) (nI 0) σ
    unfold wlX2_firmPage_9_body
    exact ⟨fun _ => kk, fun z => absurd (by decide) z⟩
  | succ k ih =>
    intro hk kk
    show wlX2_firmPage_9_body Φ (wlX2_firmPage_9 Φ (k + 1)) (nI c) (nI (k + 1)) σ
    unfold wlX2_firmPage_9_body
    refine pk_le (k + 1) 0 (fun z => absurd z (by omega)) (fun _ => ?_)
    refine pC_isWritten h hI hc hk (brB (fun z y5 e5 => ?_) (fun z => ?_))
    · rw [e5, pk_m1]
      rw [(grt_s _ k).2 z] at kk
      exact ih (by omega) kk
    · rw [(grt_s _ k).1 z] at kk
      exact kk
theorem pC_firmPage {a : AS} {σ : St} (h : RepC a σ) (hI : Inv a) {c : Nat} (hc : c < 5) {Φ : Int32 → St → Prop} (kk : Φ (nI (firm a c)) σ) : wpX2_firmPage (nI c) σ Φ := by
  unfold wpX2_firmPage
  refine pC_clerk hc (fun y3 e3 => ⟨now a c + 1, ?_⟩)
  rw [e3, h.1.2.2.1 c hc]
  exact lC_firmPage h hI hc (now a c) (Nat.le_refl _) kk
theorem pC_cutPages {a : AS} {σ : St} (h : RepC a σ) (hI : Inv a) {c : Nat} (hc : c < nA a) {Φ : Int32 → St → Prop} (kk : ∀ t, RepC (cutA a c) t → Φ (nI (cutK a c)) t) : wpX2_cutPages (nI c) σ Φ := by
  unfold wpX2_cutPages
  have hn := hI.1.1
  have hc5 : c < 5 := by omega
  have h23 := hI.1.2.1 c hc5
  have hf := (firm_ok hI.2.2.1 hc).1
  have hfr := hI.1.2.2.2.1 c hc5
  obtain ⟨⟨g0, g1, g2, g3, g4⟩, e2, e3, hrest⟩ := id h
  refine pC_clerk hc5 (fun y3 e3' => pC_clerk hc5 (pC_firmPage h hI hc5 (fun t8 e8 => pC_clerk hc5 ?_)))
  rw [g4 c hc5] at e3'
  have ev : frm (cutA a c) c = if frm a c < firm a c then firm a c else frm a c := if_pos rfl
  have e8' : t8 = setI σ (32 * (5 + c) + 4) (nI (frm (cutA a c) c)) := by
    rw [e8, e3', ev]
    by_cases q : frm a c < firm a c
    · rw [if_pos ((nI_ltI (by omega) (by omega)).mpr q), if_pos q]
    · rw [if_neg (fun z => q ((nI_ltI (by omega) (by omega)).mp z)), if_neg q]
  have hv : t8.1 (32 * (5 + c) + 4) = nI (frm (cutA a c) c) := by
    rw [e8']
    exact if_pos rfl
  have hk : nI (frm (cutA a c) c) - nI (frm a c) = nI (cutK a c) := by
    rw [ev]
    unfold cutK
    by_cases q : frm a c < firm a c
    · rw [if_pos q, if_pos q, subI (by omega)]
    · rw [if_neg q, if_neg q, subI (by omega), Nat.sub_self]
  rw [hv, e3', hk]
  refine kk t8 ?_
  have F : ∀ j, j ≠ 32 * (5 + c) + 4 → t8.1 j = σ.1 j := by
    intro j hj
    rw [e8', setI_1, if_neg hj]
  have e2' : t8.2 = σ.2 := by rw [e8']; rfl
  refine repC_clk h (fun j hj => F j (by omega)) (fun j hj => by rw [e2']) (fun u hu => sT_ne (by omega)) (fun i hi => ?_) (fun i hi => ?_) (fun i hi => ?_) (fun i hi => ?_) (fun i hi l hl => ?_) ?_
  · rw [F _ (by omega)]
    exact g1 i hi
  · rw [F _ (by omega)]
    exact g2 i hi
  · rw [F _ (by omega)]
    exact g3 i hi
  · by_cases e : i = c
    · rw [e]
      exact hv
    · rw [F _ (by omega), g4 i hi]
      show nI (frm a i) = nI (if i = c then _ else frm a i)
      rw [if_neg e]
  · rw [e2']
    exact e2 i hi l hl
  · unfold C3
    rw [e2']
    exact e3
theorem lC_cutAll {a : AS} (hI : Inv a) {Φ : Int32 → St → Prop} (kk : ∀ (s : Nat) (t : St), s ≤ 1000 → RepC (cutB a (nA a)) t → Φ (nI s) t) :
    ∀ (N b s : Nat) (t : St), b ≤ nA a → nA a - b < N → s ≤ 23 * b → RepC (cutB a b) t → wlX2_cutAll_4 Φ N (nI s) (nI b) t := by
  have hn := hI.1.1
  intro N
  induction N with
  | zero => intro b s t h1 h2; omega
  | succ N ih =>
    intro b s t hb hN hs h
    show wlX2_cutAll_4_body Φ (wlX2_cutAll_4 Φ N) (nI s) (nI b) t
    unfold wlX2_cutAll_4_body
    obtain ⟨hI2, n2⟩ := cutB_inv hI b hb
    rw [h.1.1, n2]
    refine pk_le (nA a) b (fun h1 => ?_) (fun h1 => ?_)
    · have e : b = nA a := by omega
      subst e
      exact kk s t (by omega) h
    · refine pC_cutPages h hI2 (by rw [n2]; exact h1) (fun t' ht' y ey y2 ey2 => ?_)
      have hk : cutK (cutB a b) b ≤ 23 := by
        have h1 := (firm_ok hI2.2.2.1 (c := b) (by rw [n2]; exact h1)).1
        have h2 := hI2.1.2.1 b (by omega)
        unfold cutK
        by_cases q : frm (cutB a b) b < firm (cutB a b) b
        · rw [if_pos q]
          omega
        · rw [if_neg q]
          omega
      rw [ey, ey2, nI_1, addI]
      exact ih (b + 1) _ t' (by omega) (by omega) (by omega) ht'
theorem pC_cutAll {a : AS} {σ : St} (hI : Inv a) (h : RepC a σ) {Φ : Int32 → St → Prop} (kk : ∀ (s : Nat) (t : St), s ≤ 1000 → RepC (cutB a (nA a)) t → Φ (nI s) t) : wpX2_cutAll σ Φ := by
  unfold wpX2_cutAll
  exact ⟨nA a + 1, lC_cutAll hI kk (nA a + 1) 0 0 σ (Nat.zero_le _) (by omega) (Nat.zero_le _) h⟩
