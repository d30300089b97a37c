-- THE CLASS'S CALLS
theorem pD_cnt {G : Prop} {P : AS → Int32 → Prop} {a b : AS} {σ : St} {r : Int32} (hg : G) (hp : P b r) (h : RepC b σ) {Φ : Int32 → St → Prop} (kk : Kn RepC (CRg G P a) Φ) : wpX7_counted r σ (fun r2 t1 => Φ r2 t1) :=
  pC_counted h (fun t ht => kk _ _ t (crg_ok hg hp) ht)
theorem pD_bad {G : Prop} {P : AS → Int32 → Prop} {a : AS} {σ : St} (hg : ¬ G) (h : RepC a σ) {Φ : Int32 → St → Prop} (kk : Kn RepC (CRg G P a) Φ) : wpX7_counted (-2) σ (fun r2 t1 => Φ r2 t1) :=
  pC_counted h (fun t ht => kk _ _ t (crg_bad hg) ht)
/-- a flag that is 1 -/
theorem fl1 {A B : Prop} (g : B) : ((1 : Int32) = 0 → A) ∧ (¬ (1 : Int32) = 0 → B) := ⟨fun z => absurd z (by decide), fun _ => g⟩
theorem fl0 {A B : Prop} (f : A) : ((0 : Int32) = 0 → A) ∧ (¬ (0 : Int32) = 0 → B) := ⟨fun _ => f, fun z => absurd rfl z⟩
theorem pD_clerks {a : AS} {σ : St} (hI : Inv a) (h : RepC a σ) {x : Int32} {Φ : Int32 → St → Prop} (kk : Kn RepC (CRg (inn 2 5 x) (Fx (beginA a (cl x)) (nI (nA a))) a) Φ) : wpX9_clerks x σ Φ := by
  unfold wpX9_clerks
  have hn := hI.1.1
  refine pC_within (lo := nI 2) (hi := nI 5) (brB (fun q => pD_bad q h kk) (fun q y4 e4 => ?_))
  have g := q
  obtain ⟨v, h1, h2, rfl⟩ := inn_nI (by decide) (by decide) q
  rw [cl_nI (n := v) (by omega)] at kk
  rw [h.1.1] at e4
  rw [e4]
  exact pC_begin h (fun t ht => kk _ _ t (crg_id g ⟨rfl, rfl⟩ (cnt_nI (by omega) _)) ht)
theorem pD_work {a : AS} {σ : St} (hI : Inv a) (h : RepC a σ) {x1 x2 : Int32} {Φ : Int32 → St → Prop} (kk : Kn RepC (CRg (isC a x1 ∧ inn 0 999 x2) (WorkR (cl x1) (cl x2) a) a) Φ) : wpX9_work x1 x2 σ Φ := by
  unfold wpX9_work wbX9_work_26 wbX9_work_27 wbX9_work_50
  have hn := hI.1.1
  refine pC_hasClerk h hI.1 (brB (fun q => fl0 (pD_bad (fun z => q z.1) h kk)) (fun q => ?_))
  refine pC_within (lo := nI 0) (hi := nI 999) (brB (fun q2 => fl0 (pD_bad (fun z => q2 z.2) h kk)) (fun q2 => fl1 ?_))
  have g : isC a x1 ∧ inn 0 999 x2 := ⟨q, q2⟩
  obtain ⟨c, hc, rfl⟩ := q
  obtain ⟨v, h1, h2, rfl⟩ := inn_nI (by decide) (by decide) q2
  rw [cl_nI (n := c) (by omega), cl_nI (n := v) (by omega)] at kk
  exact pC_work hI h hc (by omega) (fun b r t hr ht => pD_cnt g hr ht kk)
theorem pD_send {a : AS} {σ : St} (hI : Inv a) (h : RepC a σ) {x1 x2 : Int32} {Φ : Int32 → St → Prop} (kk : Kn RepC (CRg (isC a x1 ∧ isC a x2 ∧ x1 ≠ x2) (SendR (cl x1) (cl x2) a) a) Φ) : wpX9_send x1 x2 σ Φ := by
  unfold wpX9_send wbX9_send_31 wbX9_send_32 wbX9_send_55
  have hn := hI.1.1
  refine pC_hasClerk h hI.1 (brB (fun q => fl0 (pD_bad (fun z => q z.1) h kk)) (fun q => ?_))
  refine pC_hasClerk h hI.1 (brB (fun q2 => fl0 (pD_bad (fun z => q2 z.2.1) h kk)) (fun q2 => ⟨fun e => fl0 (pD_bad (fun z => z.2.2 e) h kk), fun e => fl1 ?_⟩))
  have g : isC a x1 ∧ isC a x2 ∧ x1 ≠ x2 := ⟨q, q2, e⟩
  obtain ⟨c, hc, rfl⟩ := q
  obtain ⟨d, hd, rfl⟩ := q2
  rw [cl_nI (n := c) (by omega), cl_nI (n := d) (by omega)] at kk
  exact pC_send hI h hc (fun b r t hr ht => pD_cnt g hr ht kk)
theorem pD_get {a : AS} {σ : St} (hI : Inv a) (h : RepC a σ) {x1 x2 : Int32} {Φ : Int32 → St → Prop} (kk : Kn RepC (CRg (isC a x1 ∧ ¬ x2 < 0) (GetR (cl x1) (cl x2) a) a) Φ) : wpX9_get x1 x2 σ Φ := by
  unfold wpX9_get wbX9_get_19 wbX9_get_20 wbX9_get_43
  have hn := hI.1.1
  refine pC_hasClerk h hI.1 (brB (fun q => fl0 (pD_bad (fun z => q z.1) h kk)) (fun q => ⟨fun q2 => fl0 (pD_bad (fun z => z.2 q2) h kk), fun q2 => fl1 ?_⟩))
  have g : isC a x1 ∧ ¬ x2 < 0 := ⟨q, q2⟩
  obtain ⟨c, hc, rfl⟩ := q
  obtain ⟨k, hk, rfl⟩ := pos_nI q2
  rw [cl_nI (n := c) (by omega), cl_nI hk] at kk
  exact pC_get hI h hc hk (fun b r t hr ht => pD_cnt g hr ht kk)
theorem pD_writes {a : AS} {σ : St} (hI : Inv a) (h : RepC a σ) {x1 x2 : Int32} {Φ : Int32 → St → Prop} (kk : Kn RepC (CRg (isC a x1 ∧ inn 1 24 x2) (Fx (writeA a (cl x1) (cl x2)) (nI (wri (writeA a (cl x1) (cl x2)) (cl x1)))) a) Φ) : wpX9_writes x1 x2 σ Φ := by
  unfold wpX9_writes wbX9_writes_25 wbX9_writes_26 wbX9_writes_49
  have hn := hI.1.1
  refine pC_hasClerk h hI.1 (brB (fun q => fl0 (pD_bad (fun z => q z.1) h kk)) (fun q => ?_))
  refine pC_within (lo := nI 1) (hi := nI 24) (brB (fun q2 => fl0 (pD_bad (fun z => q2 z.2) h kk)) (fun q2 => fl1 ?_))
  have g : isC a x1 ∧ inn 1 24 x2 := ⟨q, q2⟩
  obtain ⟨c, hc, rfl⟩ := q
  obtain ⟨v, h1, h2, rfl⟩ := inn_nI (by decide) (by decide) q2
  rw [cl_nI (n := c) (by omega), cl_nI (n := v) (by omega)] at kk
  exact pC_writePages hI h hc (by omega) (fun t ht => pD_cnt g ⟨rfl, rfl⟩ ht kk)
theorem pD_loses {a : AS} {σ : St} (hI : Inv a) (h : RepC a σ) {x1 : Int32} {Φ : Int32 → St → Prop} (kk : Kn RepC (CRg (isC a x1) (LoseR (cl x1) a) a) Φ) : wpX9_loses x1 σ Φ := by
  unfold wpX9_loses wbX9_loses_28
  have hn := hI.1.1
  refine pC_hasClerk h hI.1 (brB (fun q => pD_bad q h kk) (fun q => ?_))
  have g := q
  obtain ⟨c, hc, rfl⟩ := q
  rw [cl_nI (n := c) (by omega)] at kk
  exact pC_lose hI h hc (fun b r t hr ht => pD_cnt g hr ht kk)
theorem pD_says {a : AS} {σ : St} (hI : Inv a) (h : RepC a σ) {x1 : Int32} {Φ : Int32 → St → Prop} (kk : Kn RepC (CRg (isC a x1) (SayR (cl x1) a) a) Φ) : wpX9_says x1 σ Φ := by
  unfold wpX9_says wbX9_says_28
  have hn := hI.1.1
  refine pC_hasClerk h hI.1 (brB (fun q => pD_bad q h kk) (fun q => ?_))
  have g := q
  obtain ⟨c, hc, rfl⟩ := q
  rw [cl_nI (n := c) (by omega)] at kk
  exact pC_say hI h hc (fun b r t hr ht => pD_cnt g hr ht kk)
theorem pD_draw {a : AS} {σ : St} (hI : Inv a) (h : RepC a σ) {x1 x2 : Int32} {Φ : Int32 → St → Prop} (kk : Kn RepC (CRg (inn 0 999999 x1 ∧ inn 1 60 x2) (DrwR a (cl x1) (cl x2)) a) Φ) : wpX9_draw x1 x2 σ Φ := by
  unfold wpX9_draw wbX9_draw_24 wbX9_draw_25
  have hn := hI.1.1
  refine pC_within (lo := nI 0) (hi := nI 999999) (brB (fun q => fl0 (pD_bad (fun z => q z.1) h kk)) (fun q => ?_))
  refine pC_within (lo := nI 1) (hi := nI 60) (brB (fun q2 => fl0 (pD_bad (fun z => q2 z.2) h kk)) (fun q2 => fl1 ?_))
  have g : inn 0 999999 x1 ∧ inn 1 60 x2 := ⟨q, q2⟩
  obtain ⟨s, h1, h2, rfl⟩ := inn_nI (by decide) (by decide) q
  obtain ⟨m, h3, h4, rfl⟩ := inn_nI (by decide) (by decide) q2
  rw [cl_nI (n := s) (by omega), cl_nI (n := m) (by omega)] at kk
  rw [h.1.1]
  refine pC_begin h (fun t ht y3 e3 => ⟨m + 1, ?_⟩)
  have hIb : Inv (beginA a (nA a)) := inv_begin hI hn.1 hn.2
  rw [e3, nI_l (by omega)]
  refine lC_draw (m := m) (s := s) hIb (by omega) h4 (fun b x c t hD ht => ?_) (m + 1) 0 (beginA a (nA a)) s 0 t (Nat.zero_le _) (by omega) ⟨rfl, rfl, rfl⟩ ht
  obtain ⟨-, -, -, hc⟩ := drn_ok hIb (by omega) m b x c hD
  exact kk _ _ t (crg_id g ⟨x, c, hD, rfl⟩ (cnt_nI (by omega) _)) ht
theorem pD_of {a : AS} {σ : St} (hI : Inv a) (h : RepC a σ) {x1 x2 : Int32} {Φ : Int32 → St → Prop} (kk : Kn RepC (CRg (isC a x1 ∧ inn 0 7 x2) (Fx a (nI (ofA a (cl x1) (cl x2)))) a) Φ) : wpX9_of x1 x2 σ Φ := by
  unfold wpX9_of wbX9_of_25 wbX9_of_26 wbX9_of_49
  have hn := hI.1.1
  refine pC_hasClerk h hI.1 (brB (fun q => fl0 (pD_bad (fun z => q z.1) h kk)) (fun q => ?_))
  refine pC_within (lo := nI 0) (hi := nI 7) (brB (fun q2 => fl0 (pD_bad (fun z => q2 z.2) h kk)) (fun q2 => fl1 ?_))
  have g : isC a x1 ∧ inn 0 7 x2 := ⟨q, q2⟩
  obtain ⟨c, hc, rfl⟩ := q
  obtain ⟨v, h1, h2, rfl⟩ := inn_nI (by decide) (by decide) q2
  rw [cl_nI (n := c) (by omega), cl_nI (n := v) (by omega)] at kk
  exact pC_tellClerk hI h hc h2 (pD_cnt g ⟨rfl, rfl⟩ h kk)
theorem pD_page {a : AS} {σ : St} (hI : Inv a) (h : RepC a σ) {x1 x2 x3 x4 : Int32} {Φ : Int32 → St → Prop} (kk : Kn RepC (CRg (isC a x1 ∧ ¬ x2 < 0 ∧ isC a x3 ∧ inn 0 3 x4) (Fx a (pgV a (cl x1) (cl x2) (cl x3) (cl x4))) a) Φ) : wpX9_page x1 x2 x3 x4 σ Φ := by
  unfold wpX9_page wbX9_page_40 wbX9_page_41 wbX9_page_69
  have hn := hI.1.1
  refine pC_hasClerk h hI.1 (brB (fun q => fl0 (pD_bad (fun z => q z.1) h kk)) (fun q => ⟨fun q2 => fl0 (pD_bad (fun z => z.2.1 q2) h kk), fun q2 => ?_⟩))
  refine pC_hasClerk h hI.1 (brB (fun q3 => fl0 (pD_bad (fun z => q3 z.2.2.1) h kk)) (fun q3 => ?_))
  refine pC_within (lo := nI 0) (hi := nI 3) (brB (fun q4 => fl0 (pD_bad (fun z => q4 z.2.2.2) h kk)) (fun q4 => fl1 ?_))
  have g : isC a x1 ∧ ¬ x2 < 0 ∧ isC a x3 ∧ inn 0 3 x4 := ⟨q, q2, q3, q4⟩
  obtain ⟨c, hc, rfl⟩ := q
  obtain ⟨k, hk, rfl⟩ := pos_nI q2
  obtain ⟨d, hd, rfl⟩ := q3
  obtain ⟨w, h1, h2, rfl⟩ := inn_nI (by decide) (by decide) q4
  rw [cl_nI (n := c) (by omega), cl_nI hk, cl_nI (n := d) (by omega), cl_nI (n := w) (by omega)] at kk
  exact pC_tellPage hI h hc hk hd h2 (pD_cnt g ⟨rfl, rfl⟩ h kk)
theorem pD_dead {a : AS} {σ : St} (hI : Inv a) (h : RepC a σ) {x1 x2 x3 : Int32} {Φ : Int32 → St → Prop} (kk : Kn RepC (CRg (isC a x1 ∧ inn 0 99 x2 ∧ inn 0 99 x3) (Fx a (b01 (deadR a (cl x1) (cl x2) (cl x3)))) a) Φ) : wpX9_dead x1 x2 x3 σ Φ := by
  unfold wpX9_dead wbX9_dead_35 wbX9_dead_36
  have hn := hI.1.1
  refine pC_hasClerk h hI.1 (brB (fun q => fl0 (pD_bad (fun z => q z.1) h kk)) (fun q => ?_))
  refine pC_within (lo := nI 0) (hi := nI 99) (brB (fun q2 => fl0 (pD_bad (fun z => q2 z.2.1) h kk)) (fun q2 => ?_))
  refine pC_within (lo := nI 0) (hi := nI 99) (brB (fun q3 => fl0 (pD_bad (fun z => q3 z.2.2) h kk)) (fun q3 => fl1 ?_))
  have g : isC a x1 ∧ inn 0 99 x2 ∧ inn 0 99 x3 := ⟨q, q2, q3⟩
  obtain ⟨c, hc, rfl⟩ := q
  obtain ⟨u, h1, h2, rfl⟩ := inn_nI (by decide) (by decide) q2
  obtain ⟨v, h3, h4, rfl⟩ := inn_nI (by decide) (by decide) q3
  rw [cl_nI (n := c) (by omega), cl_nI (n := u) (by omega), cl_nI (n := v) (by omega)] at kk
  have fin := kk _ _ σ (crg_id g ⟨rfl, rfl⟩ (cnt_b _)) h
  refine pC_clerk (by omega) (pC_isDeadRest h hI (by omega) (by omega) (by omega) (brB (fun z => ?_) (fun z => ?_)))
  · rw [b01_f z] at fin
    exact fin
  · rw [b01_t z] at fin
    exact fin
theorem pD_end {a : AS} {σ : St} (hI : Inv a) (h : RepC a σ) {x1 x2 : Int32} {Φ : Int32 → St → Prop} (kk : Kn RepC (CRg (isC a x1 ∧ inn 0 99 x2) (Fx a (enV a (cl x1) (cl x2))) a) Φ) : wpX9_end x1 x2 σ Φ := by
  unfold wpX9_end wbX9_end_25 wbX9_end_26 wbX9_end_52
  have hn := hI.1.1
  refine pC_hasClerk h hI.1 (brB (fun q => fl0 (pD_bad (fun z => q z.1) h kk)) (fun q => ?_))
  refine pC_within (lo := nI 0) (hi := nI 99) (brB (fun q2 => fl0 (pD_bad (fun z => q2 z.2) h kk)) (fun q2 => fl1 ?_))
  have g : isC a x1 ∧ inn 0 99 x2 := ⟨q, q2⟩
  obtain ⟨c, hc, rfl⟩ := q
  obtain ⟨v, h1, h2, rfl⟩ := inn_nI (by decide) (by decide) q2
  rw [cl_nI (n := c) (by omega), cl_nI (n := v) (by omega)] at kk
  exact pC_clerk (by omega) (pC_endOf h hI.1 (by omega) (by omega) (pD_cnt g ⟨rfl, rfl⟩ h kk))
theorem pD_letter {a : AS} {σ : St} (hI : Inv a) (h : RepC a σ) {x1 x2 x3 : Int32} {Φ : Int32 → St → Prop} (kk : Kn RepC (CRg (isC a x1 ∧ ¬ x2 < 0 ∧ inn 0 3 x3) (LetR a (cl x1) (cl x2) (cl x3)) a) Φ) : wpX9_letter x1 x2 x3 σ Φ := by
  unfold wpX9_letter wbX9_letter_28 wbX9_letter_29 wbX9_letter_55
  have hn := hI.1.1
  refine pC_hasClerk h hI.1 (brB (fun q => fl0 (pD_bad (fun z => q z.1) h kk)) (fun q => ⟨fun q2 => fl0 (pD_bad (fun z => z.2.1 q2) h kk), fun q2 => ?_⟩))
  refine pC_within (lo := nI 0) (hi := nI 3) (brB (fun q3 => fl0 (pD_bad (fun z => q3 z.2.2) h kk)) (fun q3 => fl1 ?_))
  have g : isC a x1 ∧ ¬ x2 < 0 ∧ inn 0 3 x3 := ⟨q, q2, q3⟩
  obtain ⟨c, hc, rfl⟩ := q
  obtain ⟨k, hk, rfl⟩ := pos_nI q2
  obtain ⟨w, h1, h2, rfl⟩ := inn_nI (by decide) (by decide) q3
  rw [cl_nI (n := c) (by omega), cl_nI hk, cl_nI (n := w) (by omega)] at kk
  exact pC_tellLetter hI h hc hk h2 (fun r hr => pD_cnt g hr h kk)
theorem pD_saying {a : AS} {σ : St} (hI : Inv a) (h : RepC a σ) {x1 x2 : Int32} {Φ : Int32 → St → Prop} (kk : Kn RepC (CRg (¬ x1 < 0 ∧ inn 0 3 x2) (Fx a (syV a (cl x1) (cl x2))) a) Φ) : wpX9_saying x1 x2 σ Φ := by
  unfold wpX9_saying wbX9_saying_17 wbX9_saying_18 wbX9_saying_41
  refine ⟨fun q => fl0 (pD_bad (fun z => z.1 q) h kk), fun q => ?_⟩
  refine pC_within (lo := nI 0) (hi := nI 3) (brB (fun q2 => fl0 (pD_bad (fun z => q2 z.2) h kk)) (fun q2 => fl1 ?_))
  have g : ¬ x1 < 0 ∧ inn 0 3 x2 := ⟨q, q2⟩
  obtain ⟨k, hk, rfl⟩ := pos_nI q
  obtain ⟨w, h1, h2, rfl⟩ := inn_nI (by decide) (by decide) q2
  rw [cl_nI hk, cl_nI (n := w) (by omega)] at kk
  exact pC_tellSaying hI h hk h2 (pD_cnt g ⟨rfl, rfl⟩ h kk)
theorem pD_released {a : AS} {σ : St} (hI : Inv a) (h : RepC a σ) {x1 : Int32} {Φ : Int32 → St → Prop} (kk : Kn RepC (CRg (¬ x1 < 0) (Fx a (rlV a (cl x1))) a) Φ) : wpX9_released x1 σ Φ := by
  unfold wpX9_released wbX9_released_24 wpX6_releasedAt
  have hsc := hI.1.2.2.2.2.2.2.1
  have hrc := hI.1.2.2.2.2.2.2.2.1
  have hcl : cLen 49 = 30 := by decide
  refine ⟨fun q => pD_bad (fun z => z q) h kk, fun q => ?_⟩
  have g := q
  obtain ⟨k, hk, rfl⟩ := pos_nI q
  rw [cl_nI hk] at kk
  rw [h.2.2.2.2.1.2.2.2.2.1]
  refine ⟨fun z => absurd z g, fun _ => pk_le (rcn a) k (fun z => ?_) (fun z => pC_at (by rw [hcl]; omega) ?_)⟩
  · have e : rlV a k = -1 := by unfold rlV; rw [if_neg (by omega)]
    rw [e] at kk
    exact pD_cnt g ⟨rfl, rfl⟩ h kk
  · have e : rlV a k = nI (rel a k) := by unfold rlV; rw [if_pos z]
    rw [e] at kk
    rw [h.2.2.2.2.1.2.2.2.2.2 k z]
    exact pD_cnt g ⟨rfl, rfl⟩ h kk
theorem pD_cuts {a : AS} {σ : St} (hI : Inv a) (h : RepC a σ) {x1 : Int32} {Φ : Int32 → St → Prop} (kk : Kn RepC (CRg (isC a x1) (Fx (cutA a (cl x1)) (nI (cutK a (cl x1)))) a) Φ) : wpX9_cuts x1 σ Φ := by
  unfold wpX9_cuts wbX9_cuts_28
  have hn := hI.1.1
  refine pC_hasClerk h hI.1 (brB (fun q => pD_bad q h kk) (fun q => ?_))
  have g := q
  obtain ⟨c, hc, rfl⟩ := q
  rw [cl_nI (n := c) (by omega)] at kk
  exact pC_cutPages h hI hc (fun t ht => pD_cnt g ⟨rfl, rfl⟩ ht kk)
theorem pD_would {a : AS} {σ : St} (hI : Inv a) (h : RepC a σ) {x1 x2 : Int32} {Φ : Int32 → St → Prop} (kk : Kn RepC (CRg (isC a x1 ∧ inn 0 2 x2) (Fx a (nI (wdV a (cl x1) (cl x2)))) a) Φ) : wpX9_would x1 x2 σ Φ := by
  unfold wpX9_would wbX9_would_24 wbX9_would_25 wbX9_would_48
  have hn := hI.1.1
  refine pC_hasClerk h hI.1 (brB (fun q => fl0 (pD_bad (fun z => q z.1) h kk)) (fun q => ?_))
  refine pC_within (lo := nI 0) (hi := nI 2) (brB (fun q2 => fl0 (pD_bad (fun z => q2 z.2) h kk)) (fun q2 => fl1 ?_))
  have g : isC a x1 ∧ inn 0 2 x2 := ⟨q, q2⟩
  obtain ⟨c, hc, rfl⟩ := q
  obtain ⟨w, h1, h2, rfl⟩ := inn_nI (by decide) (by decide) q2
  rw [cl_nI (n := c) (by omega), cl_nI (n := w) (by omega)] at kk
  exact pC_tellLoss hI h hc (by omega) (fun t ht => pD_cnt g ⟨rfl, rfl⟩ ht kk)
theorem pD_worst {a : AS} {σ : St} (hI : Inv a) (h : RepC a σ) {x1 : Int32} {Φ : Int32 → St → Prop} (kk : Kn RepC (CRg (inn 0 1 x1) (Fx a (nI (wsV2 a (cl x1)))) a) Φ) : wpX9_worst x1 σ Φ := by
  unfold wpX9_worst
  have hn := hI.1.1
  refine pC_within (lo := nI 0) (hi := nI 1) (brB (fun q => pD_bad q h kk) (fun q => ?_))
  have g : inn 0 1 x1 := q
  obtain ⟨w, h1, h2, rfl⟩ := inn_nI (by decide) (by decide) q
  rw [cl_nI (n := w) (by omega)] at kk
  refine pC_worst hI h (fun t ht => ?_)
  have hl := wst_lt a (nA a) (by omega)
  have hlt := wsV2_lt hI w
  unfold wsV2 at kk hlt
  refine pk_eq w 0 (fun e => ?_) (fun e => pC_tellLoss (w := 0) hI ht hl (by decide) (fun t2 ht2 => ?_))
  · rw [if_pos e] at kk hlt
    exact kk _ _ t (crg_id g ⟨rfl, rfl⟩ (cnt_nI hlt _)) ht
  · rw [if_neg e] at kk hlt
    have ew : wdV a (wst a (nA a)) 0 = goneOf a (wst a (nA a)) (nA a) := if_pos rfl
    rw [ew]
    exact kk _ _ t2 (crg_id g ⟨rfl, rfl⟩ (cnt_nI hlt _)) ht2
theorem pD_type {a : AS} {σ : St} (hI : Inv a) (h : RepC a σ) {x1 : Int32} {Φ : Int32 → St → Prop} (kk : Kn RepC (CRg (inn 0 127 x1) (TypR a (cl x1)) a) Φ) : wpX9_type x1 σ Φ := by
  unfold wpX9_type wbX9_type_27 wpX8_add
  have hL := hI.1.2.2.2.2.2.2.2.2
  have hcl : cLen 52 = 120 := by decide
  refine pC_within (lo := nI 0) (hi := nI 127) (brB (fun q => pD_bad q h kk) (fun q => ?_))
  have g : inn 0 127 x1 := q
  obtain ⟨v, h1, h2, rfl⟩ := inn_nI (by decide) (by decide) q
  rw [cl_nI (n := v) (by omega)] at kk
  rw [h.2.2.2.2.2.2.1.1]
  refine pk_lt (tln a) 120 (fun z => pC_put (by rw [hcl]; exact z) (fun t3 e3 => ?_)) (fun z => ?_)
  · rw [show (w2 σ 52 (tln a) (nI v)).1 1824 = nI (tln a) from h.2.2.2.2.2.2.1.1, nI_1] at e3
    have e1 : t3.1 1824 = nI (tln a + 1) := by rw [e3]; rfl
    rw [e1]
    have F : ∀ j, j ≠ 1824 → t3.1 j = σ.1 j := fun j hj => by rw [e3, setI_1, if_neg hj]; rfl
    have R : ∀ b, b ≠ 52 → t3.2 b = σ.2 b := fun b hb => by rw [e3, setI_2, w2_ne _ _ _ hb]
    have tg : ∀ u, u ≠ 26 → u ≠ 27 → typeA a v u = a u := fun u h1 h2 => by unfold typeA; rw [sT_ne h2, sT_ne h1]
    have hR : RepC (typeA a v) t3 := by
      refine repC_oth h (fun j hj => F j (by omega)) (fun j h1 h2 h3 h4 => R j (by omega)) (fun u hu => tg u (by omega) (by omega)) (C4_fr h.2.2.2.1 (F _ (by decide)) (fun j hj => R j (by omega)) (fun u h1 h2 => tg u (by omega) (by omega))) (C5_fr h.2.2.2.2.1 (F _ (by decide)) (F _ (by decide)) (fun j h1 h2 => R j (by omega)) (fun u h1 h2 => tg u (by omega) (by omega))) (C6_fr h.2.2.2.2.2.1 (fun j hj => F j (by omega)) (fun u h1 h2 => tg u (by omega) (by omega))) ⟨e1, fun i hi => ?_⟩ (C8_fr h.2.2.2.2.2.2.2 (F _ (by decide)) (fun j h1 h2 => R j (by omega)) (fun u h1 h2 => tg u (by omega) (by omega)))
      have hi : i < tln a + 1 := hi
      show _ = nI (if i = tln a then v else a 27 i 0 0)
      rw [e3, setI_2, w2_at]
      by_cases e : i = tln a
      · rw [if_pos e, if_pos e]
      · rw [if_neg e, if_neg e]
        exact h.2.2.2.2.2.2.1.2 i (by omega)
    exact pD_cnt g (Or.inr ⟨z, rfl, rfl⟩) hR kk
  · exact pD_cnt g (Or.inl ⟨by omega, rfl, rfl⟩) h kk
theorem pD_told {a : AS} {σ : St} (hI : Inv a) (h : RepC a σ) {x1 : Int32} {Φ : Int32 → St → Prop} (kk : Kn RepC (CRg (inn 0 9 x1) (Fx a (nI (toldA a (cl x1)))) a) Φ) : wpX9_told x1 σ Φ := by
  unfold wpX9_told wbX9_told_24
  refine pC_within (lo := nI 0) (hi := nI 9) (brB (fun q => pD_bad q h kk) (fun q => ?_))
  have g : inn 0 9 x1 := q
  obtain ⟨w, h1, h2, rfl⟩ := inn_nI (by decide) (by decide) q
  rw [cl_nI (n := w) (by omega)] at kk
  exact pC_tell hI h h2 (pD_cnt g ⟨rfl, rfl⟩ h kk)
theorem pD_clear {a : AS} {σ : St} (h : RepC a σ) {Φ : Int32 → St → Prop} (kk : ∀ t, RepC (clearA a) t → Φ (nI (tln a)) t) : wpX9_clear σ Φ := by
  unfold wpX9_clear wpX8_empty
  intro y1 e1 t2 e2
  rw [e1, h.2.2.2.2.2.2.1.1]
  have F : ∀ j, j ≠ 1824 → t2.1 j = σ.1 j := fun j hj => by rw [e2, setI_1, if_neg hj]
  have R : t2.2 = σ.2 := by rw [e2]; rfl
  have tg : ∀ u, u ≠ 26 → clearA a u = a u := fun u h1 => sT_ne h1
  refine kk t2 (repC_oth h (fun j hj => F j (by omega)) (fun j _ _ _ _ => by rw [R]) (fun u hu => tg u (by omega)) (C4_fr h.2.2.2.1 (F _ (by decide)) (fun j hj => by rw [R]) (fun u h1 h2 => tg u (by omega))) (C5_fr h.2.2.2.2.1 (F _ (by decide)) (F _ (by decide)) (fun j h1 h2 => by rw [R]) (fun u h1 h2 => tg u (by omega))) (C6_fr h.2.2.2.2.2.1 (fun j hj => F j (by omega)) (fun u h1 h2 => tg u (by omega))) ⟨by rw [e2]; rfl, fun i hi => absurd hi (Nat.not_lt_zero i)⟩ (C8_fr h.2.2.2.2.2.2.2 (F _ (by decide)) (fun j h1 h2 => by rw [R]) (fun u h1 h2 => tg u (by omega))))
theorem pD_digest {a : AS} {σ : St} (hI : Inv a) (h : RepC a σ) {Φ : Int64 → St → Prop} (kk : Φ (dg3 a) σ) : wpX9_digest σ Φ := by
  unfold wpX9_digest
  have hn := hI.1.1
  have hsc := hI.1.2.2.2.2.2.2.1
  have l103 : ∀ (K : Int64 → Int32 → St → Prop) (k : Nat) (g : Int64), k < scn a → K (dgs a k g) (nI (k + 1)) σ → ∀ (N w : Nat), w ≤ 4 → 4 - w < N → wlX9_digest_103 Φ K N (fld (fun w => (sayA a k w).toInt64) g w) (nI k) (nI w) σ := by
    intro K k g hk hK N
    induction N with
    | zero => intro w h1 h2; omega
    | succ N ih =>
      intro w hw hN
      show wlX9_digest_103_body Φ K (wlX9_digest_103 Φ K N) _ (nI k) (nI w) σ
      unfold wlX9_digest_103_body
      refine pk_le 4 w (fun q y2 e2 => ?_) (fun q => ?_)
      · have e : w = 4 := by omega
        subst e
        rw [e2, nI_1]
        exact hK
      · refine pC_tellSaying hI h (by omega) (by omega) (fun y5 e5 y6 e6 => ?_)
        have es : syV a k w = sayA a k w := if_pos hk
        rw [e5, e6, nI_1, es]
        exact ih (w + 1) (by omega) (by omega)
  have l86 : ∀ (N k : Nat), k ≤ scn a → scn a - k < N → wlX9_digest_86 Φ N (fl2 (dgs a) (dg2 a) k) (nI k) σ := by
    intro N
    induction N with
    | zero => intro k h1 h2; omega
    | succ N ih =>
      intro k hk hN
      show wlX9_digest_86_body Φ (wlX9_digest_86 Φ N) _ (nI k) σ
      unfold wlX9_digest_86_body
      rw [h.2.2.2.2.1.1]
      refine pk_le (scn a) k (fun q => ?_) (fun q => ⟨5, ?_⟩)
      · have e : k = scn a := by omega
        subst e
        exact kk
      · exact l103 _ k _ q (ih (k + 1) (by omega) (by omega)) 5 0 (by omega) (by omega)
  have l47 : ∀ (K : Int64 → Int32 → St → Prop) (c : Nat) (g : Int64), c < nA a → K (dgc a c g) (nI (c + 1)) σ → ∀ (N w : Nat), w ≤ 8 → 8 - w < N → wlX9_digest_47 Φ K N (fld (fun w => (nI (ofA a c w)).toInt64) g w) (nI c) (nI w) σ := by
    intro K c g hc hK N
    induction N with
    | zero => intro w h1 h2; omega
    | succ N ih =>
      intro w hw hN
      show wlX9_digest_47_body Φ K (wlX9_digest_47 Φ K N) _ (nI c) (nI w) σ
      unfold wlX9_digest_47_body
      refine pk_le 8 w (fun q y2 e2 => ?_) (fun q => ?_)
      · have e : w = 8 := by omega
        subst e
        rw [e2, nI_1]
        exact hK
      · refine pC_tellClerk hI h hc (by omega) (fun y5 e5 y6 e6 => ?_)
        rw [e5, e6, nI_1]
        exact ih (w + 1) (by omega) (by omega)
  have l33 : ∀ (N c : Nat), c ≤ nA a → nA a - c < N → wlX9_digest_33 Φ N (fl2 (dgc a) (dg1 a) c) (nI c) σ := by
    intro N
    induction N with
    | zero => intro c h1 h2; omega
    | succ N ih =>
      intro c hc hN
      show wlX9_digest_33_body Φ (wlX9_digest_33 Φ N) _ (nI c) σ
      unfold wlX9_digest_33_body
      rw [h.1.1]
      refine pk_le (nA a) c (fun q => ⟨scn a + 1, ?_⟩) (fun q => ⟨9, ?_⟩)
      · have e : c = nA a := by omega
        subst e
        exact l86 (scn a + 1) 0 (Nat.zero_le _) (by omega)
      · exact l47 _ c _ q (ih (c + 1) (by omega) (by omega)) 9 0 (by omega) (by omega)
  have l6 : ∀ (N w : Nat), w ≤ 10 → 10 - w < N → wlX9_digest_6 Φ N (fld (fun w => (nI (toldA a w)).toInt64) 2099 w) (nI w) σ := by
    intro N
    induction N with
    | zero => intro w h1 h2; omega
    | succ N ih =>
      intro w hw hN
      show wlX9_digest_6_body Φ (wlX9_digest_6 Φ N) _ (nI w) σ
      unfold wlX9_digest_6_body
      refine pk_le 10 w (fun q => ⟨nA a + 1, ?_⟩) (fun q => ?_)
      · have e : w = 10 := by omega
        subst e
        exact l33 (nA a + 1) 0 (Nat.zero_le _) (by omega)
      · refine pC_tell hI h (by omega) (fun y5 e5 y6 e6 => ?_)
        rw [e5, e6, nI_1]
        exact ih (w + 1) (by omega) (by omega)
  exact ⟨11, l6 11 0 (by omega) (by omega)⟩
