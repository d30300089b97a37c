-- THE REFERENCE'S CALLS
abbrev Kn (Rep : AS → St → Prop) {α : Type} (CR : AS → α → Prop) (Φ : α → St → Prop) : Prop := ∀ b r t, CR b r → Rep b t → Φ r t
theorem pW_tells {a : AS} {μ : St} (h : RepM a μ) {r : Int32} (hr : r = -4 ∨ r = -1 ∨ ∃ k : Nat, k < 2 ^ 31 ∧ r = nI k) {Φ : Int32 → St → Prop} (kk : ∀ t, RepM (cntA r a) t → Φ r t) : wpX10_tells r μ Φ := by
  refine pM_tells h (fun e t ht => kk t ?_) (fun e t ht => kk t ?_)
  · rw [e]
    exact ht
  · rcases hr with q | q | ⟨k, hk, q⟩
    · exact absurd q e
    · rw [q]
      exact ht
    · rw [q, cnt_nI hk]
      exact ht
theorem pW_clerks {a : AS} {μ : St} (hI : Inv a) (h : RepM a μ) {x : Int32} {Φ : Int32 → St → Prop} (kk : Kn RepM (CRg (inn 2 5 x) (Fx (beginA a (cl x)) (nI (nA a))) a) Φ) : wpX10_clerks x μ Φ := by
  unfold wpX10_clerks
  have hn := hI.1.1
  refine pM_in (lo := nI 2) (hi := nI 5) (brB (fun q => pM_bad h (fun t ht => kk _ _ t (crg_bad q) ht)) (fun q y4 e4 t5 e5 => ?_))
  obtain ⟨v, h1, h2, rfl⟩ := inn_nI (by decide) (by decide) q
  obtain ⟨hh1, hh2, hh3, hh4, hh5, ⟨c0, c1, c2, c3⟩, hh7⟩ := id h
  have hc : cl (nI v) = v := cl_nI (by omega)
  refine pM_begins (a := a) (v := v) (by rw [e5]; rfl) (by rw [e5]; exact ⟨c1, c2, c3⟩) (by rw [e5]; exact hh7) (fun t ht => ?_)
  rw [e4, h.1.1]
  refine kk (beginA a v) _ t (crg_id q ⟨by rw [hc], rfl⟩ (cnt_nI (by omega) _)) ht
theorem pW_work {a : AS} {μ : St} (hI : Inv a) (h : RepM a μ) {x1 x2 : Int32} {Φ : Int32 → St → Prop} (kk : Kn RepM (CRg (isC a x1 ∧ inn 0 999 x2) (WorkR (cl x1) (cl x2) a) a) Φ) : wpX10_work x1 x2 μ Φ := by
  unfold wpX10_work wbX10_work_20
  have hn := hI.1.1
  have bad : ¬ (isC a x1 ∧ inn 0 999 x2) → wpX10_bad μ (fun r2 t1 => Φ r2 t1) := fun q => pM_bad h (fun t ht => kk _ _ t (crg_bad q) ht)
  refine pM_isClerk h hI.1 (brB (fun q => bad (fun z => q z.1)) (fun q => ?_))
  refine pM_in (lo := nI 0) (hi := nI 999) (brB (fun q2 => bad (fun z => q2 z.2)) (fun q2 => ?_))
  have g : isC a x1 ∧ inn 0 999 x2 := ⟨q, q2⟩
  obtain ⟨c, hc, rfl⟩ := q
  obtain ⟨v, h1, h2, rfl⟩ := inn_nI (by decide) (by decide) q2
  have ec : cl (nI c) = c := cl_nI (by omega)
  have ev : cl (nI v) = v := cl_nI (by omega)
  refine pM_work hI h hc (by omega) (fun b r t hr ht => pW_tells ht ?_ (fun t' ht' => kk _ _ t' (crg_ok g (by rw [ec, ev]; exact hr)) ht'))
  rcases hr with ⟨-, -, z⟩ | ⟨z0, -, z⟩
  · exact Or.inl z
  · exact Or.inr (Or.inr ⟨_, by omega, z⟩)
theorem pW_send {a : AS} {μ : St} (hI : Inv a) (h : RepM a μ) {x1 x2 : Int32} {Φ : Int32 → St → Prop} (kk : Kn RepM (CRg (isC a x1 ∧ isC a x2 ∧ x1 ≠ x2) (SendR (cl x1) (cl x2) a) a) Φ) : wpX10_send x1 x2 μ Φ := by
  unfold wpX10_send wbX10_send_21
  have hn := hI.1.1
  have bad : ¬ (isC a x1 ∧ isC a x2 ∧ x1 ≠ x2) → wpX10_bad μ (fun r2 t1 => Φ r2 t1) := fun q => pM_bad h (fun t ht => kk _ _ t (crg_bad q) ht)
  refine pM_isClerk h hI.1 (brB (fun q => bad (fun z => q z.1)) (fun q => ?_))
  refine pM_isClerk h hI.1 (brB (fun q2 => bad (fun z => q2 z.2.1)) (fun q2 => ⟨fun e => bad (fun z => z.2.2 e), fun e => ?_⟩))
  have g : isC a x1 ∧ isC a x2 ∧ x1 ≠ x2 := ⟨q, q2, e⟩
  obtain ⟨c, hc, rfl⟩ := q
  obtain ⟨d, hd, rfl⟩ := q2
  have ec : cl (nI c) = c := cl_nI (by omega)
  have ev : cl (nI d) = d := cl_nI (by omega)
  refine pM_send hI h hc (fun b r t hr ht => pW_tells ht ?_ (fun t' ht' => kk _ _ t' (crg_ok g (by rw [ec, ev]; exact hr)) ht'))
  rcases hr with ⟨-, -, z⟩ | ⟨z0, -, z⟩
  · exact Or.inl z
  · exact Or.inr (Or.inr ⟨_, by omega, z⟩)
theorem pW_get {a : AS} {μ : St} (hI : Inv a) (h : RepM a μ) {x1 x2 : Int32} {Φ : Int32 → St → Prop} (kk : Kn RepM (CRg (isC a x1 ∧ ¬ x2 < 0) (GetR (cl x1) (cl x2) a) a) Φ) : wpX10_get x1 x2 μ Φ := by
  unfold wpX10_get wbX10_get_12 wbX10_get_42
  have hn := hI.1.1
  have bad : ¬ (isC a x1 ∧ ¬ x2 < 0) → wpX10_bad μ (fun r2 t1 => Φ r2 t1) := fun q => pM_bad h (fun t ht => kk _ _ t (crg_bad q) ht)
  refine pM_isClerk h hI.1 (brB (fun q => bad (fun z => q z.1)) (fun q => ⟨fun q2 => ?_, fun q2 => bad (fun z => ?_)⟩))
  · have n2 : ¬ x2 < 0 := fun z => by
      have a1 := Int32.le_iff_toInt_le.mp q2
      have a2 := Int32.lt_iff_toInt_lt.mp z
      omega
    have g : isC a x1 ∧ ¬ x2 < 0 := ⟨q, n2⟩
    obtain ⟨c, hc, rfl⟩ := q
    obtain ⟨k, hk, rfl⟩ := pos_nI n2
    have ec : cl (nI c) = c := cl_nI (by omega)
    have ev : cl (nI k) = k := cl_nI hk
    have h23 := hI.1.2.1 c (by omega)
    refine pM_get hI h hc hk (fun b r t hr ht => ⟨pk_in 1 3 (by decide), fun e => ⟨pk_in 1 3 (by decide), fun t2 e2 => ?_⟩, fun e => ⟨pk_in 1 3 (by decide), fun t2 e2 => ?_⟩⟩)
    · have hr2 := hr
      rw [e] at hr2
      rw [nI_lit 1, rd_nI _ _ (by decide), wr_nI _ _ _ (by decide)] at e2
      have hR : RepM (noA b) t2 := by
        obtain ⟨r1, r2, r3, r4, r5, ⟨d1, d2, d3, d4⟩, r7⟩ := ht
        subst e2
        refine ⟨r1, r2, r3, r4, r5, ⟨d1, d2, ?_, d4⟩, r7⟩
        show (w2 t 13 1 (t.2 13 1 + nI 1)).2 13 1 = nI (non b + 1)
        rw [w2_at, if_pos rfl, d3, addI]
      refine pM_tells hR (fun z => ?_) (fun z t' ht' => ?_)
      · rw [e] at z
        exact absurd z (by decide)
      · refine kk (noA b) r t' ?_ ht'
        rw [e]
        exact crg_ok (b' := b) g (by rw [ec, ev]; exact hr2)
    · rw [nI_lit 1, rd_nI _ _ (by decide), wr_nI _ _ _ (by decide)] at e2
      have hR : RepM b t2 := by
        obtain ⟨r1, r2, r3, r4, r5, ⟨d1, d2, d3, d4⟩, r7⟩ := ht
        subst e2
        refine ⟨r1, r2, r3, r4, r5, ⟨d1, d2, ?_, d4⟩, r7⟩
        show (w2 t 13 1 (t.2 13 1 + 0)).2 13 1 = nI (non b)
        rw [w2_at, if_pos rfl, d3, nI_lit 0, addI, Nat.add_zero]
      refine pW_tells hR ?_ (fun t' ht' => kk _ _ t' (crg_ok g (by rw [ec, ev]; exact hr)) ht')
      rcases hr with ⟨-, -, z⟩ | ⟨m, -, ⟨-, -, z⟩ | ⟨-, -, -, z⟩ | ⟨-, z0, -, z⟩⟩
      · exact absurd z e
      · exact Or.inr (Or.inl z)
      · exact Or.inl z
      · exact Or.inr (Or.inr ⟨_, by omega, z⟩)
  · refine q2 ?_
    obtain ⟨k, hk, e⟩ := pos_nI z.2
    rw [e]
    exact nI_pos0 hk
theorem pW_writes {a : AS} {μ : St} (hI : Inv a) (h : RepM a μ) {x1 x2 : Int32} {Φ : Int32 → St → Prop} (kk : Kn RepM (CRg (isC a x1 ∧ inn 1 24 x2) (Fx (writeA a (cl x1) (cl x2)) (nI (wri (writeA a (cl x1) (cl x2)) (cl x1)))) a) Φ) : wpX10_writes x1 x2 μ Φ := by
  unfold wpX10_writes wbX10_writes_29
  have hn := hI.1.1
  have bad : ¬ (isC a x1 ∧ inn 1 24 x2) → wpX10_bad μ (fun r2 t1 => Φ r2 t1) := fun q => pM_bad h (fun t ht => kk _ _ t (crg_bad q) ht)
  refine pM_isClerk h hI.1 (brB (fun q => bad (fun z => q z.1)) (fun q => ?_))
  refine pM_in (lo := nI 1) (hi := nI 24) (brB (fun q2 => bad (fun z => q2 z.2)) (fun q2 => ?_))
  have g : isC a x1 ∧ inn 1 24 x2 := ⟨q, q2⟩
  obtain ⟨c, hc, rfl⟩ := q
  obtain ⟨v, h1, h2, rfl⟩ := inn_nI (by decide) (by decide) q2
  have ec : cl (nI c) = c := cl_nI (by omega)
  have ev : cl (nI v) = v := cl_nI (by omega)
  rw [ec, ev] at kk
  have hw : wri (writeA a c v) c ≤ now a c := (inv_write hI (c := c) (m := v)).1.2.2.1 c (by omega)
  have h23 := hI.1.2.1 c (by omega)
  refine pM_becomesWritten h hI.1 (by omega) (by omega) (fun t ht => kk _ _ t (crg_id g ⟨rfl, rfl⟩ (cnt_nI (Nat.lt_of_le_of_lt hw (by omega)) _)) ht)
theorem pW_loses {a : AS} {μ : St} (hI : Inv a) (h : RepM a μ) {x1 : Int32} {Φ : Int32 → St → Prop} (kk : Kn RepM (CRg (isC a x1) (LoseR (cl x1) a) a) Φ) : wpX10_loses x1 μ Φ := by
  unfold wpX10_loses
  have hn := hI.1.1
  refine pM_isClerk h hI.1 (brB (fun q => pM_bad h (fun t ht => kk _ _ t (crg_bad q) ht)) (fun q => ?_))
  have g : isC a x1 := q
  obtain ⟨c, hc, rfl⟩ := q
  have ec : cl (nI c) = c := cl_nI (by omega)
  refine pM_lose hI h hc (fun b r t hr ht => pW_tells ht ?_ (fun t' ht' => kk _ _ t' (crg_ok g (by rw [ec]; exact hr)) ht'))
  rcases hr with ⟨-, -, z⟩ | ⟨z0, -, z⟩
  · exact Or.inl z
  · have := goneOf_le hI.1 (c := c) (nA a) hn.2
    exact Or.inr (Or.inr ⟨_, by omega, z⟩)
theorem pW_says {a : AS} {μ : St} (hI : Inv a) (h : RepM a μ) {x1 : Int32} {Φ : Int32 → St → Prop} (kk : Kn RepM (CRg (isC a x1) (SayR (cl x1) a) a) Φ) : wpX10_says x1 μ Φ := by
  unfold wpX10_says
  have hn := hI.1.1
  refine pM_isClerk h hI.1 (brB (fun q => pM_bad h (fun t ht => kk _ _ t (crg_bad q) ht)) (fun q => ?_))
  have g : isC a x1 := q
  obtain ⟨c, hc, rfl⟩ := q
  have ec : cl (nI c) = c := cl_nI (by omega)
  refine pM_say hI h hc (fun b r t hr ht => pW_tells ht ?_ (fun t' ht' => kk _ _ t' (crg_ok g (by rw [ec]; exact hr)) ht'))
  rcases hr with ⟨-, -, z⟩ | ⟨z0, -, z⟩
  · exact Or.inl z
  · have := heldN_le (saysA a c) (scn a + 1)
    exact Or.inr (Or.inr ⟨_, by omega, z⟩)
theorem ofA_lt {a : AS} (hI : Inv a) {c w : Nat} (hc : c < nA a) : ofA a c w < 2 ^ 31 := by
  have hn := hI.1.1
  have h1 := hI.1.2.1 c (by omega)
  have h2 := hI.1.2.2.1 c (by omega)
  have h3 := hI.1.2.2.2.1 c (by omega)
  have h4 := hI.1.2.2.2.2.1 c (by omega)
  have h5 := hI.2.1.1 c (by omega) (now a c) (Nat.le_refl _)
  have h6 := (firm_ok hI.2.2.1 hc).1
  have h7 := cntTo_le a c (lcn a)
  have h8 := heldBy_le a c (scn a)
  have h9 := hI.1.2.2.2.2.2.1
  have h10 := hI.1.2.2.2.2.2.2.1
  unfold ofA
  repeat' split
  all_goals omega
theorem pW_of {a : AS} {μ : St} (hI : Inv a) (h : RepM a μ) {x1 x2 : Int32} {Φ : Int32 → St → Prop} (kk : Kn RepM (CRg (isC a x1 ∧ inn 0 7 x2) (Fx a (nI (ofA a (cl x1) (cl x2)))) a) Φ) : wpX10_of x1 x2 μ Φ := by
  unfold wpX10_of wbX10_of_29
  have hn := hI.1.1
  have bad : ¬ (isC a x1 ∧ inn 0 7 x2) → wpX10_bad μ (fun r2 t1 => Φ r2 t1) := fun q => pM_bad h (fun t ht => kk _ _ t (crg_bad q) ht)
  refine pM_isClerk h hI.1 (brB (fun q => bad (fun z => q z.1)) (fun q => ?_))
  refine pM_in (lo := nI 0) (hi := nI 7) (brB (fun q2 => bad (fun z => q2 z.2)) (fun q2 => ?_))
  have g : isC a x1 ∧ inn 0 7 x2 := ⟨q, q2⟩
  obtain ⟨c, hc, rfl⟩ := q
  obtain ⟨v, h1, h2, rfl⟩ := inn_nI (by decide) (by decide) q2
  have ec : cl (nI c) = c := cl_nI (by omega)
  have ev : cl (nI v) = v := cl_nI (by omega)
  rw [ec, ev] at kk
  exact pM_clerkOf h hI.1 hI.2.1 hI.2.2.1 hc h2 (kk _ _ μ (crg_id g ⟨rfl, rfl⟩ (cnt_nI (ofA_lt hI hc) _)) h)
theorem pgV_cnt {a : AS} (hI : Inv a) {c k d w : Nat} (hc : c < nA a) (hd : d < nA a) (h : frm a c ≤ k ∧ k ≤ now a c) : cntA (pgV a c k d w) a = a := by
  have hn := hI.1.1
  have s1 := hI.2.1.1 c (by omega) k h.2
  have s2 := hI.2.1.2.2.1 c (by omega) k h.2 d (by omega)
  have s3 := hI.2.1.2.2.2.2.2.1 c (by omega) k h.2
  unfold pgV
  rw [if_pos h]
  repeat' split
  all_goals exact cnt_nI (by omega) a
theorem pW_page {a : AS} {μ : St} (hI : Inv a) (h : RepM a μ) {x1 x2 x3 x4 : Int32} {Φ : Int32 → St → Prop} (kk : Kn RepM (CRg (isC a x1 ∧ ¬ x2 < 0 ∧ isC a x3 ∧ inn 0 3 x4) (Fx a (pgV a (cl x1) (cl x2) (cl x3) (cl x4))) a) Φ) : wpX10_page x1 x2 x3 x4 μ Φ := by
  unfold wpX10_page wbX10_page_33 wpX10_restOf wpX10_pageOf
  have hn := hI.1.1
  have bad : ¬ (isC a x1 ∧ ¬ x2 < 0 ∧ isC a x3 ∧ inn 0 3 x4) → wpX10_bad μ (fun r2 t1 => Φ r2 t1) := fun q => pM_bad h (fun t ht => kk _ _ t (crg_bad q) ht)
  refine pM_isClerk h hI.1 (brB (fun q => bad (fun z => q z.1)) (fun q => ⟨fun q2 => bad (fun z => z.2.1 q2), fun q2 => ?_⟩))
  refine pM_isClerk h hI.1 (brB (fun q3 => bad (fun z => q3 z.2.2.1)) (fun q3 => ?_))
  refine pM_in (lo := nI 0) (hi := nI 3) (brB (fun q4 => bad (fun z => q4 z.2.2.2)) (fun q4 => ?_))
  have g : isC a x1 ∧ ¬ x2 < 0 ∧ isC a x3 ∧ inn 0 3 x4 := ⟨q, q2, q3, q4⟩
  obtain ⟨c, hc, rfl⟩ := q
  obtain ⟨k, hk, rfl⟩ := pos_nI q2
  obtain ⟨d, hd, rfl⟩ := q3
  obtain ⟨w, h1, h2, rfl⟩ := inn_nI (by decide) (by decide) q4
  rw [cl_nI (n := c) (by omega), cl_nI hk, cl_nI (n := d) (by omega), cl_nI (n := w) (by omega)] at kk
  have h23 := hI.1.2.1 c (by omega)
  have hfr := hI.1.2.2.2.1 c (by omega)
  refine ⟨pk_in c 5 (by omega), pk_in c 5 (by omega), ?_⟩
  rw [rd_nI _ _ (by omega), rd_nI _ _ (by omega), h.1.2.2.2.2 c (by omega), h.1.2.2.1 c (by omega)]
  refine pM_in (brB (fun q5 => ?_) (fun q5 => ?_))
  · rw [leI (by omega) (by omega), leI (by omega) (by omega)] at q5
    have e : pgV a c k d w = -3 := by unfold pgV; rw [if_neg q5]
    rw [e] at kk
    exact pM_no h (fun t ht => kk _ _ t (crg_ok g ⟨rfl, rfl⟩) ht)
  · rw [leI (by omega) (by omega), leI (by omega) (by omega)] at q5
    have fin := kk _ _ μ (crg_id g ⟨rfl, rfl⟩ (pgV_cnt hI hc hd q5)) h
    unfold pgV at fin
    rw [if_pos q5] at fin
    have i1 : (24 : Int32) * nI c + nI k = nI (24 * c + k) := by rw [nI_lit 24, mulI, addI]
    have i2 : (5 : Int32) * ((24 : Int32) * nI c + nI k) + nI d = nI (5 * (24 * c + k) + d) := by rw [i1, nI_lit 5, mulI, addI]
    rw [nI_lit 0, nI_lit 1, nI_lit 2, eqI (a := w) (b := 0) (by omega) (by decide), eqI (a := w) (b := 1) (by omega) (by decide), eqI (a := w) (b := 2) (by omega) (by decide)]
    refine ⟨fun e => ?_, fun e => ⟨fun e1 => ?_, fun e1 => ⟨fun e2 => ?_, fun e2 => ?_⟩⟩⟩
    · rw [if_pos e] at fin
      rw [i1, rd_nI _ _ (by omega), h.2.2.1.1 c (by omega) k q5.2]
      exact ⟨pk_in (24 * c + k) 120 (by omega), fin⟩
    · rw [if_neg e, if_pos e1] at fin
      rw [i1, rd_nI _ _ (by omega), h.2.2.1.2.1 c (by omega) k q5.2]
      exact ⟨pk_in (24 * c + k) 120 (by omega), fin⟩
    · rw [if_neg e, if_neg e1, if_pos e2] at fin
      rw [i2, rd_nI _ _ (by omega), h.2.2.1.2.2.1 c (by omega) k q5.2 d (by omega)]
      exact ⟨pk_in (5 * (24 * c + k) + d) 600 (by omega), fin⟩
    · rw [if_neg e, if_neg e1, if_neg e2] at fin
      rw [i2, rd_nI _ _ (by omega), h.2.2.1.2.2.2 c (by omega) k q5.2 d (by omega)]
      exact ⟨pk_in (5 * (24 * c + k) + d) 600 (by omega), fin⟩
theorem pW_dead {a : AS} {μ : St} (hI : Inv a) (h : RepM a μ) {x1 x2 x3 : Int32} {Φ : Int32 → St → Prop} (kk : Kn RepM (CRg (isC a x1 ∧ inn 0 99 x2 ∧ inn 0 99 x3) (Fx a (b01 (deadR a (cl x1) (cl x2) (cl x3)))) a) Φ) : wpX10_dead x1 x2 x3 μ Φ := by
  unfold wpX10_dead wbX10_dead_32
  have hn := hI.1.1
  have bad : ¬ (isC a x1 ∧ inn 0 99 x2 ∧ inn 0 99 x3) → wpX10_bad μ (fun r2 t1 => Φ r2 t1) := fun q => pM_bad h (fun t ht => kk _ _ t (crg_bad q) ht)
  refine pM_isClerk h hI.1 (brB (fun q => bad (fun z => q z.1)) (fun q => ?_))
  refine pM_in (lo := nI 0) (hi := nI 99) (brB (fun q2 => bad (fun z => q2 z.2.1)) (fun q2 => ?_))
  refine pM_in (lo := nI 0) (hi := nI 99) (brB (fun q3 => bad (fun z => q3 z.2.2)) (fun q3 => ?_))
  have g : isC a x1 ∧ inn 0 99 x2 ∧ inn 0 99 x3 := ⟨q, q2, q3⟩
  obtain ⟨c, hc, rfl⟩ := q
  obtain ⟨u, h1, h2, rfl⟩ := inn_nI (by decide) (by decide) q2
  obtain ⟨v, h3, h4, rfl⟩ := inn_nI (by decide) (by decide) q3
  rw [cl_nI (n := c) (by omega), cl_nI (n := u) (by omega), cl_nI (n := v) (by omega)] at kk
  have fin := kk _ _ μ (crg_id g ⟨rfl, rfl⟩ (cnt_b _)) h
  have hl := hI.1.2.2.2.2.1 c (by omega)
  refine pM_isDead h (by omega) (by omega) (fun i hi => by have := hI.2.1.2.2.2.2.1 c (by omega) i hi; omega) (by omega) (by omega) (brB (fun z => ?_) (fun z => ?_))
  · rw [b01_f z] at fin
    exact fin
  · rw [b01_t z] at fin
    exact fin
theorem pW_end {a : AS} {μ : St} (hI : Inv a) (h : RepM a μ) {x1 x2 : Int32} {Φ : Int32 → St → Prop} (kk : Kn RepM (CRg (isC a x1 ∧ inn 0 99 x2) (Fx a (enV a (cl x1) (cl x2))) a) Φ) : wpX10_end x1 x2 μ Φ := by
  unfold wpX10_end wbX10_end_20
  have hn := hI.1.1
  have bad : ¬ (isC a x1 ∧ inn 0 99 x2) → wpX10_bad μ (fun r2 t1 => Φ r2 t1) := fun q => pM_bad h (fun t ht => kk _ _ t (crg_bad q) ht)
  refine pM_isClerk h hI.1 (brB (fun q => bad (fun z => q z.1)) (fun q => ?_))
  refine pM_in (lo := nI 0) (hi := nI 99) (brB (fun q2 => bad (fun z => q2 z.2)) (fun q2 => ?_))
  have g : isC a x1 ∧ inn 0 99 x2 := ⟨q, q2⟩
  obtain ⟨c, hc, rfl⟩ := q
  obtain ⟨v, h1, h2, rfl⟩ := inn_nI (by decide) (by decide) q2
  rw [cl_nI (n := c) (by omega), cl_nI (n := v) (by omega)] at kk
  have hl := hI.1.2.2.2.2.1 c (by omega)
  have i1 : (128 : Int32) * nI c + nI v = nI (128 * c + v) := by rw [nI_lit 128, mulI, addI]
  rw [rd_nI _ _ (by omega), h.1.2.1 c (by omega), i1]
  refine ⟨pk_in c 5 (by omega), pk_le (life a c) v (fun z => ?_) (fun z => ?_)⟩
  · have e : enV a c v = -1 := by unfold enV; rw [if_neg (by omega)]
    rw [e] at kk
    exact kk _ _ μ (crg_id g ⟨rfl, rfl⟩ rfl) h
  · have e : enV a c v = nI (ends a c v) := by unfold enV; rw [if_pos z]
    have hs := hI.2.1.2.2.2.2.1 c (by omega) v z
    rw [e] at kk
    rw [rd_nI _ _ (by omega), h.2.1 c (by omega) v z]
    exact ⟨pk_in (128 * c + v) 640 (by omega), kk _ _ μ (crg_id g ⟨rfl, rfl⟩ (cnt_nI (by omega) _)) h⟩
theorem ltV_cnt {a : AS} (hI : Inv a) {m w : Nat} (hm : m < lcn a) : cntA (ltV a m w) a = a := by
  have hn := hI.1.1
  have s1 := hI.2.1.2.1 m hm
  have s2 := hI.2.1.2.2.2.2.2.2.1 m hm
  have s3 := hI.2.1.2.2.2.1 m hm (lby a m) (by omega)
  unfold ltV
  by_cases e : w = 0
  · rw [if_pos e]; exact cnt_nI (by omega) a
  · rw [if_neg e]
    by_cases e : w = 1
    · rw [if_pos e]; exact cnt_nI (by omega) a
    · rw [if_neg e]
      by_cases e : w = 2
      · rw [if_pos e]; exact cnt_b a
      · rw [if_neg e]; exact cnt_nI (by omega) a
theorem pW_letter {a : AS} {μ : St} (hI : Inv a) (h : RepM a μ) {x1 x2 x3 : Int32} {Φ : Int32 → St → Prop} (kk : Kn RepM (CRg (isC a x1 ∧ ¬ x2 < 0 ∧ inn 0 3 x3) (LetR a (cl x1) (cl x2) (cl x3)) a) Φ) : wpX10_letter x1 x2 x3 μ Φ := by
  unfold wpX10_letter wbX10_letter_24
  have hn := hI.1.1
  have bad : ¬ (isC a x1 ∧ ¬ x2 < 0 ∧ inn 0 3 x3) → wpX10_bad μ (fun r2 t1 => Φ r2 t1) := fun q => pM_bad h (fun t ht => kk _ _ t (crg_bad q) ht)
  refine pM_isClerk h hI.1 (brB (fun q => bad (fun z => q z.1)) (fun q => ⟨fun q2 => bad (fun z => z.2.1 q2), fun q2 => ?_⟩))
  refine pM_in (lo := nI 0) (hi := nI 3) (brB (fun q3 => bad (fun z => q3 z.2.2)) (fun q3 => ?_))
  have g : isC a x1 ∧ ¬ x2 < 0 ∧ inn 0 3 x3 := ⟨q, q2, q3⟩
  obtain ⟨c, hc, rfl⟩ := q
  obtain ⟨k, hk, rfl⟩ := pos_nI q2
  obtain ⟨w, h1, h2, rfl⟩ := inn_nI (by decide) (by decide) q3
  rw [cl_nI (n := c) (by omega), cl_nI hk, cl_nI (n := w) (by omega)] at kk
  refine pM_letterAt h hI.1 hI.2.1 (by omega) hk (fun m hm => ?_) (fun hm => ?_)
  · have fin := kk _ _ μ (crg_id g ⟨rfl, Or.inl ⟨m, hm, rfl⟩⟩ (ltV_cnt hI hm.1)) h
    have hlc := hI.1.2.2.2.2.2.1
    have hml := hm.1
    have s2 := hI.2.1.2.2.2.2.2.2.1 m hm.1
    refine ⟨fun z => ?_, fun _ => ?_⟩
    · rw [neI1 (a := m) (by omega)] at z
      exact z.elim
    have i1 : (13 : Int32) * nI m + (1 : Int32) = nI (13 * m + 1) := by rw [nI_lit 13, nI_lit 1, mulI, addI]
    have i2 : (13 : Int32) * nI m + (2 : Int32) = nI (13 * m + 2) := by rw [nI_lit 13, nI_lit 2, mulI, addI]
    have i3 : (13 : Int32) * nI m + (8 : Int32) + nI (lby a m) = nI (13 * m + 8 + lby a m) := by rw [nI_lit 13, nI_lit 8, mulI, addI, addI]
    rw [i1, rd_nI _ _ (by omega), h.2.2.2.1.2.2.1 m hm.1]
    refine ⟨pk_in (13 * m + 1) 520 (by omega), fun y12 e12 => ?_⟩
    subst e12
    rw [i2, i3, rd_nI _ _ (by omega), rd_nI _ _ (by omega), h.2.2.2.1.2.2.2.1 m hm.1, h.2.2.2.1.2.2.2.2.2 m hm.1 _ (by omega)]
    unfold ltV at fin
    refine pk_eq w 0 (fun e => ?_) (fun e => pk_eq w 1 (fun e1 => ⟨pk_in (13 * m + 2) 520 (by omega), ?_⟩) (fun e1 => pk_eq w 3 (fun e2 => ⟨pk_in (13 * m + 8 + lby a m) 520 (by omega), ?_⟩) (fun e2 => ?_)))
    · rw [if_pos e] at fin
      exact fin
    · rw [if_neg e, if_pos e1] at fin
      exact fin
    · rw [if_neg e, if_neg e1, if_neg (by omega)] at fin
      exact fin
    · rw [if_neg e, if_neg e1, if_pos (by omega)] at fin
      refine pM_isDeadLetter h hI.1 hI.2.1 hm.1 (brB (fun z => ?_) (fun z => ?_))
      · rw [b01_f z] at fin
        exact fin
      · rw [b01_t z] at fin
        exact fin
  · exact ⟨fun _ => kk _ _ μ (crg_id g ⟨rfl, Or.inr ⟨hm, rfl⟩⟩ rfl) h, fun z => absurd rfl z⟩
theorem sayA_cnt {a : AS} (hI : Inv a) {k w : Nat} (hk : k < scn a) : cntA (sayA a k w) a = a := by
  have hn := hI.1.1
  have s := hI.2.1.2.2.2.2.2.2.2.1 k hk
  unfold sayA
  by_cases e : w = 0
  · rw [if_pos e]; exact cnt_nI (by omega) a
  · rw [if_neg e]
    by_cases e : w = 1
    · rw [if_pos e]; exact cnt_nI (by omega) a
    · rw [if_neg e]
      by_cases e : w = 2
      · rw [if_pos e]; exact cnt_nI (by omega) a
      · rw [if_neg e]; exact cnt_b a
theorem pW_saying {a : AS} {μ : St} (hI : Inv a) (h : RepM a μ) {x1 x2 : Int32} {Φ : Int32 → St → Prop} (kk : Kn RepM (CRg (¬ x1 < 0 ∧ inn 0 3 x2) (Fx a (syV a (cl x1) (cl x2))) a) Φ) : wpX10_saying x1 x2 μ Φ := by
  unfold wpX10_saying wbX10_saying_16
  have bad : ¬ (¬ x1 < 0 ∧ inn 0 3 x2) → wpX10_bad μ (fun r2 t1 => Φ r2 t1) := fun q => pM_bad h (fun t ht => kk _ _ t (crg_bad q) ht)
  refine ⟨fun q => bad (fun z => z.1 q), fun q => ?_⟩
  refine pM_in (lo := nI 0) (hi := nI 3) (brB (fun q2 => bad (fun z => q2 z.2)) (fun q2 => ?_))
  have g : ¬ x1 < 0 ∧ inn 0 3 x2 := ⟨q, q2⟩
  obtain ⟨k, hk, rfl⟩ := pos_nI q
  obtain ⟨w, h1, h2, rfl⟩ := inn_nI (by decide) (by decide) q2
  rw [cl_nI hk, cl_nI (n := w) (by omega)] at kk
  have hsc := hI.1.2.2.2.2.2.2.1
  rw [h.2.2.2.2.1.1]
  refine pk_le (scn a) k (fun z => ?_) (fun z => ?_)
  · have e : syV a k w = -1 := by unfold syV; rw [if_neg (by omega)]
    rw [e] at kk
    exact kk _ _ μ (crg_id g ⟨rfl, rfl⟩ rfl) h
  · have e : syV a k w = sayA a k w := by unfold syV; rw [if_pos z]
    rw [e] at kk
    exact pM_sayingOf hI h z h2 (kk _ _ μ (crg_id g ⟨rfl, rfl⟩ (sayA_cnt hI z)) h)
theorem pW_released {a : AS} {μ : St} (hI : Inv a) (h : RepM a μ) {x1 : Int32} {Φ : Int32 → St → Prop} (kk : Kn RepM (CRg (¬ x1 < 0) (Fx a (rlV a (cl x1))) a) Φ) : wpX10_released x1 μ Φ := by
  unfold wpX10_released
  have hsc := hI.1.2.2.2.2.2.2.1
  have hrc := hI.1.2.2.2.2.2.2.2.1
  refine ⟨fun q => ?_, fun q => ?_⟩
  · have n2 : ¬ x1 < 0 := fun z => by
      have a1 := Int32.le_iff_toInt_le.mp q
      have a2 := Int32.lt_iff_toInt_lt.mp z
      omega
    have g := n2
    obtain ⟨k, hk, rfl⟩ := pos_nI n2
    rw [cl_nI hk] at kk
    rw [h.2.2.2.2.1.2.2.2.2.1]
    refine pk_le (rcn a) k (fun z => ?_) (fun z => ?_)
    · have e : rlV a k = -1 := by unfold rlV; rw [if_neg (by omega)]
      rw [e] at kk
      exact kk _ _ μ (crg_id g ⟨rfl, rfl⟩ rfl) h
    · have e : rlV a k = nI (rel a k) := by unfold rlV; rw [if_pos z]
      have s := hI.2.1.2.2.2.2.2.2.2.2.1 k z
      rw [e] at kk
      rw [rd_nI _ _ (by omega), h.2.2.2.2.1.2.2.2.2.2 k z]
      exact ⟨pk_in k 30 (by omega), kk _ _ μ (crg_id g ⟨rfl, rfl⟩ (cnt_nI (by omega) _)) h⟩
  · refine pM_bad h (fun t ht => kk _ _ t (crg_bad (fun z => q ?_)) ht)
    obtain ⟨k, hk, e⟩ := pos_nI z
    rw [e]
    exact nI_pos0 hk
theorem cutK_lt {a : AS} (hI : Inv a) {c : Nat} (hc : c < nA a) : cutK a c < 2 ^ 31 := by
  have hn := hI.1.1
  have h1 := (firm_ok hI.2.2.1 hc).1
  have h2 := hI.1.2.1 c (by omega)
  unfold cutK
  by_cases q : frm a c < firm a c
  · rw [if_pos q]; omega
  · rw [if_neg q]; omega
theorem pW_cuts {a : AS} {μ : St} (hI : Inv a) (h : RepM a μ) {x1 : Int32} {Φ : Int32 → St → Prop} (kk : Kn RepM (CRg (isC a x1) (Fx (cutA a (cl x1)) (nI (cutK a (cl x1)))) a) Φ) : wpX10_cuts x1 μ Φ := by
  unfold wpX10_cuts
  have hn := hI.1.1
  refine pM_isClerk h hI.1 (brB (fun q => pM_bad h (fun t ht => kk _ _ t (crg_bad q) ht)) (fun q => ?_))
  have g : isC a x1 := q
  obtain ⟨c, hc, rfl⟩ := q
  rw [cl_nI (n := c) (by omega)] at kk
  exact pM_cutsNow h hI.1 hI.2.1 hI.2.2.1 hc (fun t ht => kk _ _ t (crg_id g ⟨rfl, rfl⟩ (cnt_nI (cutK_lt hI hc) _)) ht)
theorem fellN_le (a : AS) (c : Nat) : ∀ k, fellN a c k ≤ k := by
  intro k
  induction k with
  | zero => exact Nat.le_refl 0
  | succ k ih =>
    unfold fellN
    split <;> omega
theorem lostN_le (a : AS) (c : Nat) : ∀ k, lostN a c k ≤ k := by
  intro k
  induction k with
  | zero => exact Nat.le_refl 0
  | succ k ih =>
    unfold lostN
    split <;> omega
theorem wdV_lt {a : AS} (hI : Inv a) (c w : Nat) : wdV a c w < 2 ^ 31 := by
  have hn := hI.1.1
  have h1 := goneOf_le hI.1 (c := c) (nA a) hn.2
  have h2 := fellN_le a c (nA a)
  have h3 := lostN_le a c (scn a)
  have h4 := hI.1.2.2.2.2.2.2.1
  unfold wdV
  repeat' split
  all_goals omega
theorem pW_would {a : AS} {μ : St} (hI : Inv a) (h : RepM a μ) {x1 x2 : Int32} {Φ : Int32 → St → Prop} (kk : Kn RepM (CRg (isC a x1 ∧ inn 0 2 x2) (Fx a (nI (wdV a (cl x1) (cl x2)))) a) Φ) : wpX10_would x1 x2 μ Φ := by
  unfold wpX10_would wbX10_would_20
  have hn := hI.1.1
  have bad : ¬ (isC a x1 ∧ inn 0 2 x2) → wpX10_bad μ (fun r2 t1 => Φ r2 t1) := fun q => pM_bad h (fun t ht => kk _ _ t (crg_bad q) ht)
  refine pM_isClerk h hI.1 (brB (fun q => bad (fun z => q z.1)) (fun q => ?_))
  refine pM_in (lo := nI 0) (hi := nI 2) (brB (fun q2 => bad (fun z => q2 z.2)) (fun q2 => ?_))
  have g : isC a x1 ∧ inn 0 2 x2 := ⟨q, q2⟩
  obtain ⟨c, hc, rfl⟩ := q
  obtain ⟨w, h1, h2, rfl⟩ := inn_nI (by decide) (by decide) q2
  rw [cl_nI (n := c) (by omega), cl_nI (n := w) (by omega)] at kk
  refine pM_tries h hI.1 hI.2.1 hI.2.2.1 hc (fun t ht e19 e20 => ?_)
  have fin := kk _ _ t (crg_id g ⟨rfl, rfl⟩ (cnt_nI (wdV_lt hI c w) _)) ht
  unfold wdV at fin
  rw [e19, e20]
  refine pk_eq w 0 (fun e => ?_) (fun e => pk_eq w 1 (fun e1 => ?_) (fun e1 => ?_))
  · rw [if_pos e] at fin
    exact fin
  · rw [if_neg e, if_pos e1] at fin
    exact fin
  · rw [if_neg e, if_neg e1] at fin
    exact fin
theorem wst_lt (a : AS) : ∀ k, 1 ≤ k → wst a k < k := by
  intro k
  induction k with
  | zero => intro h; omega
  | succ k ih =>
    intro _
    show (if goneOf a (wst a k) (nA a) < goneOf a k (nA a) then k else wst a k) < k + 1
    by_cases e : k = 0
    · subst e
      split
      · exact Nat.zero_lt_one
      · exact Nat.zero_lt_one
    · have := ih (by omega)
      split <;> omega
theorem wsV2_lt {a : AS} (hI : Inv a) (w : Nat) : wsV2 a w < 2 ^ 31 := by
  have hn := hI.1.1
  have h1 := goneOf_le hI.1 (c := wst a (nA a)) (nA a) hn.2
  have h2 := wst_lt a (nA a) (by omega)
  unfold wsV2
  split <;> omega
theorem pW_worst {a : AS} {μ : St} (hI : Inv a) (h : RepM a μ) {x1 : Int32} {Φ : Int32 → St → Prop} (kk : Kn RepM (CRg (inn 0 1 x1) (Fx a (nI (wsV2 a (cl x1)))) a) Φ) : wpX10_worst x1 μ Φ := by
  unfold wpX10_worst
  have hn := hI.1.1
  refine pM_in (lo := nI 0) (hi := nI 1) (brB (fun q => pM_bad h (fun t ht => kk _ _ t (crg_bad q) ht)) (fun q => ?_))
  have g : inn 0 1 x1 := q
  obtain ⟨w, h1, h2, rfl⟩ := inn_nI (by decide) (by decide) q
  rw [cl_nI (n := w) (by omega)] at kk
  refine pM_tries (c := 0) h hI.1 hI.2.1 hI.2.2.1 (by omega) (fun t ht _ _ => ⟨nA a, ?_⟩)
  have lp := lM_worst hI.1 hI.2.1 hI.2.2.1 (x := nI w) (Φ := Φ) (fun t ht => ?_) (nA a) 1 t (Nat.le_refl 1) (by omega) (by omega) ht
  · rw [wst_1] at lp
    exact lp
  · have fin := kk _ _ t (crg_id g ⟨rfl, rfl⟩ (cnt_nI (wsV2_lt hI w) _)) ht
    unfold wsV2 at fin
    refine pk_eq w 0 (fun e => ?_) (fun e => ?_)
    · rw [if_pos e] at fin
      exact fin
    · rw [if_neg e] at fin
      exact fin
theorem pW_type {a : AS} {μ : St} (hI : Inv a) (h : RepM a μ) {x1 : Int32} {Φ : Int32 → St → Prop} (kk : Kn RepM (CRg (inn 0 127 x1) (TypR a (cl x1)) a) Φ) : wpX10_type x1 μ Φ := by
  have hL := hI.1.2.2.2.2.2.2.2.2
  refine pM_type hI h (fun q t ht => kk _ _ t (crg_bad q) ht) (fun q e t ht => kk _ _ t (crg_ok (b' := a) q (Or.inl ⟨e, rfl, rfl⟩)) ht) (fun v hv e hl t ht => ?_)
  subst e
  rw [cl_nI (n := v) (by omega)] at kk
  exact kk _ _ t (crg_id (inR_of (by decide) (Nat.zero_le v) (by omega)) (Or.inr ⟨hl, rfl, rfl⟩) (cnt_nI (by omega) _)) ht
theorem toldA_lt {a : AS} {i : Nat} (hI : Inv a) (hc : Cn i a) (hi : i ≤ 2560) (w : Nat) : toldA a w < 2 ^ 31 := by
  have hn := hI.1.1
  obtain ⟨c1, c2, c3, c4⟩ := hc
  have h1 := hI.1.2.2.2.2.2.1
  have h2 := hI.1.2.2.2.2.2.2.1
  have h3 := hI.1.2.2.2.2.2.2.2.1
  have h4 := hI.1.2.2.2.2.2.2.2.2
  have h5 := heldN_le a (scn a)
  unfold toldA
  repeat' split
  all_goals omega
theorem pW_told {a : AS} {μ : St} {i : Nat} (hI : Inv a) (hc : Cn i a) (hi : i ≤ 2560) (h : RepM a μ) {x1 : Int32} {Φ : Int32 → St → Prop} (kk : Kn RepM (CRg (inn 0 9 x1) (Fx a (nI (toldA a (cl x1)))) a) Φ) : wpX10_told x1 μ Φ := by
  unfold wpX10_told
  refine pM_in (lo := nI 0) (hi := nI 9) (brB (fun q => pM_bad h (fun t ht => kk _ _ t (crg_bad q) ht)) (fun q => ?_))
  have g : inn 0 9 x1 := q
  obtain ⟨w, h1, h2, rfl⟩ := inn_nI (by decide) (by decide) q
  rw [cl_nI (n := w) (by omega)] at kk
  exact pM_toldOf hI h h2 (kk _ _ μ (crg_id g ⟨rfl, rfl⟩ (cnt_nI (toldA_lt hI hc hi w) _)) h)
