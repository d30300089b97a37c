theorem repC_19 {b b' : AS} {t : St} (h : RepC b' t) (hu : ∀ u, u ≠ 19 → b u = b' u) (hs : ∀ k, k < scn b' → sst b k = sst b' k) : RepC b t := by
  obtain ⟨s0, s1, s2, s3, s4, s5⟩ := h.2.2.2.2.1
  have e16 : scn b = scn b' := by show b 16 0 0 0 = b' 16 0 0 0; rw [hu 16 (by decide)]
  refine repC_say h (fun _ _ _ => rfl) (fun _ _ => rfl) (fun u hu2 => hu u (by omega)) ⟨?_, fun k hk => ?_, fun k hk => ?_, fun k hk => ?_, ?_, fun k hk => ?_⟩
  · rw [e16]
    exact s0
  · rw [e16] at hk
    refine (s1 k hk).trans ?_
    show nI (b' 17 k 0 0) = nI (b 17 k 0 0)
    rw [hu 17 (by decide)]
  · rw [e16] at hk
    refine (s2 k hk).trans ?_
    show nI (b' 18 k 0 0) = nI (b 18 k 0 0)
    rw [hu 18 (by decide)]
  · rw [e16] at hk
    refine (s3 k hk).trans ?_
    rw [hs k hk]
  · refine s4.trans ?_
    show nI (b' 20 0 0 0) = nI (b 20 0 0 0)
    rw [hu 20 (by decide)]
  · have hk : k < b 20 0 0 0 := hk
    rw [hu 20 (by decide)] at hk
    refine (s5 k hk).trans ?_
    show nI (b' 21 k 0 0) = nI (b 21 k 0 0)
    rw [hu 21 (by decide)]
theorem plG_Sy {a : AS} (hI : Inv a) {c : Nat} {F : Nat → Prop} {s : Nat} : Sy (plG a c F s) := by
  have hn := hI.1.1
  have e16 : scn (plG a c F s) = scn a := by show plG a c F s 16 0 0 0 = _; rw [plG_oth (by decide) (by decide)]
  refine ⟨by rw [e16]; exact hI.1.2.2.2.2.2.2.1, fun k hk => ?_⟩
  rw [e16] at hk
  have q := hI.2.1.2.2.2.2.2.2.2.1 k hk
  refine ⟨?_, ?_, ?_⟩
  · show plG a c F s 17 k 0 0 < 5
    rw [plG_oth (by decide) (by decide)]
    have q1 := q.1
    show sck a k < 5
    omega
  · show plG a c F s 18 k 0 0 ≤ 23
    rw [plG_oth (by decide) (by decide)]
    exact q.2.1
  · by_cases z : sst a k = 0 ∧ sck a k < s ∧ keep a c (sck a k) < spg a k
    · rw [plG_sst.1 z]; decide
    · rw [plG_sst.2 z]; exact q.2.2
theorem plG_F {a : AS} {c : Nat} {F F' : Nat → Prop} {s : Nat} (h : ∀ e, F e ↔ F' e) : plG a c F s = plG a c F' s := by
  have e : F = F' := funext (fun x => propext (h x))
  rw [e]
theorem pl_fell {a : AS} {t : St} (hI : Inv a) {c i : Nat} (hf : felled a c i) (h : RepC (lsI (plG a c (fun e => (felled a c e ∧ e < i) ∨ e = i) i) i (keep a c i) (scn (plG a c (fun e => (felled a c e ∧ e < i) ∨ e = i) i))) t) : RepC (plG a c (fun e => felled a c e ∧ e < i + 1) (i + 1)) t := by
  have eF : ∀ s, plG a c (fun e => (felled a c e ∧ e < i) ∨ e = i) s = plG a c (fun e => felled a c e ∧ e < i + 1) s := by
    intro s
    refine plG_F (fun e => ⟨fun q => ?_, fun q => ?_⟩)
    · rcases q with q | q
      · exact ⟨q.1, by omega⟩
      · rw [q]; exact ⟨hf, by omega⟩
    · by_cases w : e = i
      · exact Or.inr w
      · exact Or.inl ⟨q.1, by have := q.2; omega⟩
  rw [eF i] at h
  have e16 : scn (plG a c (fun e => felled a c e ∧ e < i + 1) i) = scn a := by show plG a c _ i 16 0 0 0 = _; rw [plG_oth (by decide) (by decide)]
  refine repC_19 h (fun u hu => ?_) (fun k hk => ?_)
  · rw [lsI_tag hu, plG_tag hu, plG_tag hu]
  · have hk : k < lsI (plG a c (fun e => felled a c e ∧ e < i + 1) i) i (keep a c i) (scn (plG a c (fun e => felled a c e ∧ e < i + 1) i)) 16 0 0 0 := hk
    rw [lsI_tag (by decide)] at hk
    have hk2 : k < scn (plG a c (fun e => felled a c e ∧ e < i + 1) i) := hk
    have ek : sck (plG a c (fun e => felled a c e ∧ e < i + 1) i) k = sck a k := by show plG a c _ i 17 k 0 0 = _; rw [plG_oth (by decide) (by decide)]
    have ep : spg (plG a c (fun e => felled a c e ∧ e < i + 1) i) k = spg a k := by show plG a c _ i 18 k 0 0 = _; rw [plG_oth (by decide) (by decide)]
    by_cases z1 : sst a k = 0 ∧ sck a k < i ∧ keep a c (sck a k) < spg a k
    · have v1 := plG_sst (F := fun e => felled a c e ∧ e < i + 1) (s := i) |>.1 z1
      rw [plG_sst.1 ⟨z1.1, by omega, z1.2.2⟩, lsI_sst.2 (fun w => ?_), v1]
      have := w.2.1
      omega
    · have v1 := plG_sst (F := fun e => felled a c e ∧ e < i + 1) (s := i) |>.2 z1
      by_cases z2 : sst a k = 0 ∧ sck a k = i ∧ keep a c i < spg a k
      · rw [plG_sst.1 ⟨z2.1, by omega, by rw [z2.2.1]; exact z2.2.2⟩, lsI_sst.1 ⟨hk2, by rw [v1]; exact z2.1, by rw [ek]; exact z2.2.1, by rw [ep]; exact z2.2.2⟩]
      · rw [plG_sst.2 (fun w => ?_), lsI_sst.2 (fun w => ?_), v1]
        · rw [v1, ek, ep] at w
          exact z2 w.2
        · by_cases y : sck a k = i
          · exact z2 ⟨w.1, y, by rw [← y]; exact w.2.2⟩
          · exact z1 ⟨w.1, by omega, w.2.2⟩
theorem pl_not {a : AS} {t : St} (hI : Inv a) {c i : Nat} (hc : c < nA a) (hi : i < nA a) (hf : ¬ felled a c i) (h : RepC (plG a c (fun e => felled a c e ∧ e < i) i) t) : RepC (plG a c (fun e => felled a c e ∧ e < i + 1) (i + 1)) t := by
  have eF : ∀ s, plG a c (fun e => felled a c e ∧ e < i) s = plG a c (fun e => felled a c e ∧ e < i + 1) s := by
    intro s
    refine plG_F (fun e => ⟨fun q => ⟨q.1, by have := q.2; omega⟩, fun q => ⟨q.1, ?_⟩⟩)
    by_cases w : e = i
    · rw [w] at q
      exact absurd q.1 hf
    · have := q.2
      omega
  rw [eF i] at h
  refine repC_19 h (fun u hu => ?_) (fun k hk => ?_)
  · rw [plG_tag hu, plG_tag hu]
  · have hk : k < plG a c (fun e => felled a c e ∧ e < i + 1) i 16 0 0 0 := hk
    rw [plG_oth (by decide) (by decide)] at hk
    have hk2 : k < scn a := hk
    by_cases z1 : sst a k = 0 ∧ sck a k < i ∧ keep a c (sck a k) < spg a k
    · rw [plG_sst.1 z1, plG_sst.1 ⟨z1.1, by omega, z1.2.2⟩]
    · rw [plG_sst.2 z1, plG_sst.2 (fun w => z1 ⟨w.1, ?_, w.2.2⟩)]
      by_cases y : sck a k = i
      · have h1 := hI.2.2.2.2.2.2.2.2.1 k hk2 w.1
        have h2 : ¬ keep a c i < now a i := fun q => hf ⟨hi, Or.inr q⟩
        have h3 := w.2.2
        rw [y] at h1 h3
        omega
      · have := w.2.1
        omega
theorem pl_fin {a : AS} {t t4 : St} (hI : Inv a) {c : Nat} (hc : c < nA a) (h : RepC (plG a c (fun e => felled a c e ∧ e < nA a) (nA a)) t) (e4 : t4 = setI t 1 (nI (gon a + goneOf a c (nA a)))) : RepC (lossA a c) t4 := by
  have hn := hI.1.1
  have eF : plG a c (fun e => felled a c e ∧ e < nA a) (nA a) = plG a c (felled a c) (nA a) := plG_F (fun e => ⟨fun q => q.1, fun q => ⟨q, q.1⟩⟩)
  rw [eF] at h
  have tg : ∀ u, u ≠ 19 → u ≠ 22 → lossA a c u = plG a c (felled a c) (nA a) u := fun u h1 h2 => by rw [loss_mid h1 h2, plG_tag h1]
  have F : ∀ j, j ≠ 1 → t4.1 j = t.1 j := fun j hj => by rw [e4, setI_1, if_neg hj]
  have R : t4.2 = t.2 := by rw [e4]; rfl
  obtain ⟨s0, s1, s2, s3, s4, s5⟩ := h.2.2.2.2.1
  obtain ⟨k0, k1, k2, k3⟩ := h.2.2.2.2.2.1
  have e16 : scn (lossA a c) = scn (plG a c (felled a c) (nA a)) := by show lossA a c 16 0 0 0 = plG a c (felled a c) (nA a) 16 0 0 0; rw [tg 16 (by decide) (by decide)]
  have e16' : scn (plG a c (felled a c) (nA a)) = scn a := by show plG a c (felled a c) (nA a) 16 0 0 0 = _; rw [plG_oth (by decide) (by decide)]
  refine repC_oth h (fun j hj => F j (by omega)) (fun j _ _ _ _ => by rw [R]) (fun u hu => tg u (by omega) (by omega)) (C4_fr h.2.2.2.1 (F _ (by decide)) (fun j _ => by rw [R]) (fun u h1 h2 => tg u (by omega) (by omega))) ⟨?_, fun k hk => ?_, fun k hk => ?_, fun k hk => ?_, ?_, fun k hk => ?_⟩ ⟨?_, ?_, ?_, ?_⟩ (C7_fr h.2.2.2.2.2.2.1 (F _ (by decide)) (by rw [R]) (fun u h1 h2 => tg u (by omega) (by omega))) (C8_fr h.2.2.2.2.2.2.2 (F _ (by decide)) (fun j _ _ => by rw [R]) (fun u h1 h2 => tg u (by omega) (by omega)))
  · rw [F 96 (by decide), e16]
    exact s0
  · rw [e16] at hk
    rw [R]
    refine (s1 k hk).trans ?_
    show nI (plG a c (felled a c) (nA a) 17 k 0 0) = nI (lossA a c 17 k 0 0)
    rw [tg 17 (by decide) (by decide)]
  · rw [e16] at hk
    rw [R]
    refine (s2 k hk).trans ?_
    show nI (plG a c (felled a c) (nA a) 18 k 0 0) = nI (lossA a c 18 k 0 0)
    rw [tg 18 (by decide) (by decide)]
  · rw [e16] at hk
    rw [R]
    refine (s3 k hk).trans ?_
    rw [e16'] at hk
    have q := (hI.2.1.2.2.2.2.2.2.2.1 k hk).1
    congr 1
    by_cases z : sst a k = 0 ∧ keep a c (sck a k) < spg a k
    · rw [loss_sst.1 z, plG_sst.1 ⟨z.1, q, z.2⟩]
    · rw [loss_sst.2 z, plG_sst.2 (fun w => z ⟨w.1, w.2.2⟩)]
  · rw [F 97 (by decide)]
    refine s4.trans ?_
    show nI (plG a c (felled a c) (nA a) 20 0 0 0) = nI (lossA a c 20 0 0 0)
    rw [tg 20 (by decide) (by decide)]
  · have hk : k < lossA a c 20 0 0 0 := hk
    rw [tg 20 (by decide) (by decide)] at hk
    rw [R]
    refine (s5 k hk).trans ?_
    show nI (plG a c (felled a c) (nA a) 21 k 0 0) = nI (lossA a c 21 k 0 0)
    rw [tg 21 (by decide) (by decide)]
  · rw [e4, loss_gon]
    rfl
  · rw [F 1888 (by decide)]
    refine k1.trans ?_
    show nI (plG a c (felled a c) (nA a) 23 0 0 0) = nI (lossA a c 23 0 0 0)
    rw [tg 23 (by decide) (by decide)]
  · rw [F 1889 (by decide)]
    refine k2.trans ?_
    show nI (plG a c (felled a c) (nA a) 24 0 0 0) = nI (lossA a c 24 0 0 0)
    rw [tg 24 (by decide) (by decide)]
  · rw [F 1890 (by decide)]
    refine k3.trans ?_
    show nI (plG a c (felled a c) (nA a) 25 0 0 0) = nI (lossA a c 25 0 0 0)
    rw [tg 25 (by decide) (by decide)]
theorem lC_lose43 {a : AS} (hI : Inv a) {c : Nat} (hc : c < nA a) (hold : ∀ d, d < nA a → life a d < 60) {Φ : Int32 → St → Prop} (kk : ∀ t, RepC (lossA a c) t → Φ (nI (goneOf a c (nA a))) t) :
    ∀ (N i : Nat) (t : St), i ≤ nA a → nA a - i < N → RepC (plG a c (fun e => felled a c e ∧ e < i) i) t → LsR a c (keep a c) t → wlX2_lose_43 Φ N (nI i) t := by
  have hn := hI.1.1
  intro N
  induction N with
  | zero => intro i t h1 h2; omega
  | succ N ih =>
    intro i t hi hN h hL
    show wlX2_lose_43_body Φ (wlX2_lose_43 Φ N) (nI i) t
    unfold wlX2_lose_43_body wbX2_lose_97
    have e0 : t.1 0 = nI (nA a) := by
      rw [h.1.1]
      show nI (plG a c (fun e => felled a c e ∧ e < i) i 0 0 0 0) = _
      rw [plG_oth (by decide) (by decide)]
    have e1 : t.1 1 = nI (gon a) := by
      rw [h.2.2.2.2.2.1.1]
      show nI (plG a c (fun e => felled a c e ∧ e < i) i 22 0 0 0) = _
      rw [plG_oth (by decide) (by decide)]
    rw [e0, e1]
    refine pk_le (nA a) i (fun q => ?_) (fun q => ?_)
    · have e : i = nA a := by omega
      subst e
      refine pC_pagesGone hI hc hL (fun t4 e4 => ?_)
      rw [addI] at e4
      have hL4 : LsR a c (keep a c) t4 := by rw [e4]; exact hL
      exact pC_pagesGone hI hc hL4 (kk t4 (pl_fin hI hc h e4))
    · have h23 := hI.1.2.1 i (by omega)
      have hke := keep_le hI.1 (c := c) (d := i) hc
      refine pC_fells hI hc hL q (brB (fun z y1 ey1 => ?_) (fun z => pC_clerk (by omega) (pC_keptBy hI hL q ?_)))
      · rw [ey1, nI_1]
        exact ih (i + 1) t (by omega) (by omega) (pl_not hI hc q z h) hL
      · refine pC_fallBack hI hc (by omega) (fun w => absurd w.2 (Nat.lt_irrefl i)) h (hold i q) hL (fun t2 h2 hL2 => pC_keptBy hI hL2 q (pC_loseBehind (plG_Sy hI) h2 (by omega) (by omega) hL2 (fun t3 h3 hL3 y1 ey1 => ?_)))
        rw [ey1, nI_1]
        exact ih (i + 1) t3 (by omega) (by omega) (pl_fell hI z h3) hL3
theorem lC_lose2 {a : AS} {σ : St} (hI : Inv a) (h : RepC a σ) {c : Nat} (hc : c < nA a) {Φ : Int32 → St → Prop} (kk : ∀ b r t, LoseR c a b r → RepC b t → Φ r t) :
    ∀ (N i : Nat), i ≤ nA a → nA a - i < N → (∀ d, d < i → life a d < 60) → wlX2_lose_2 Φ N (nI c) (nI i) σ := by
  have hn := hI.1.1
  intro N
  induction N with
  | zero => intro i h1 h2; omega
  | succ N ih =>
    intro i hi hN hno
    show wlX2_lose_2_body Φ (wlX2_lose_2 Φ N) (nI c) (nI i) σ
    unfold wlX2_lose_2_body
    rw [h.1.1]
    refine pk_le (nA a) i (fun q => ?_) (fun q => pC_clerk (by omega) ?_)
    · refine pC_foresee hI h hc (fun t ht hL => ⟨nA a + 1, ?_⟩)
      have hold : ∀ d, d < nA a → life a d < 60 := fun d hd => hno d (by omega)
      refine lC_lose43 hI hc hold (fun t2 h2 => kk _ _ t2 (Or.inr ⟨?_, rfl, rfl⟩) h2) (nA a + 1) 0 t (Nat.zero_le _) (by omega) ?_ hL
      · rintro ⟨d, hd, h60⟩
        have := hold d hd
        omega
      · have e : plG a c (fun e => felled a c e ∧ e < 0) 0 = a := by
          rw [plG_F (F' := fun _ => False) (fun e => ⟨fun q => absurd q.2 (Nat.not_lt_zero e), fun q => q.elim⟩), plG_0]
        rw [e]
        exact ht
    · have hl := hI.1.2.2.2.2.1 i (by omega)
      rw [h.1.2.1 i (by omega)]
      refine pk_lt (life a i) 60 (fun z y6 e6 => ?_) (fun z => ?_)
      · rw [e6, nI_1]
        refine ih (i + 1) (by omega) (by omega) (fun d hd => ?_)
        by_cases w : d = i
        · subst w; exact z
        · exact hno d (by omega)
      · exact kk _ _ σ (Or.inl ⟨⟨i, q, z⟩, rfl, rfl⟩) h
theorem pC_lose {a : AS} {σ : St} (hI : Inv a) (h : RepC a σ) {c : Nat} (hc : c < nA a) {Φ : Int32 → St → Prop} (kk : ∀ b r t, LoseR c a b r → RepC b t → Φ r t) : wpX2_lose (nI c) σ Φ := by
  unfold wpX2_lose
  exact ⟨nA a + 1, lC_lose2 hI h hc kk (nA a + 1) 0 (Nat.zero_le _) (by omega) (fun d hd => absurd hd (Nat.not_lt_zero d))⟩
-- what would be lost
noncomputable def hbN (a : AS) (d v : Nat) : Nat → Nat
  | 0 => 0
  | k + 1 => hbN a d v k + @ite Nat (sst a k = 0 ∧ sck a k = d ∧ v < spg a k) (Classical.propDecidable _) 1 0
theorem hbN_s (a : AS) (d v k : Nat) : hbN a d v (k + 1) = hbN a d v k + @ite Nat (sst a k = 0 ∧ sck a k = d ∧ v < spg a k) (Classical.propDecidable _) 1 0 := rfl
def smN (f : Nat → Nat) : Nat → Nat
  | 0 => 0
  | n + 1 => smN f n + f n
theorem smN_s (f : Nat → Nat) (n : Nat) : smN f (n + 1) = smN f n + f n := rfl
theorem hbN_le (a : AS) (d v : Nat) : ∀ k, hbN a d v k ≤ k := by
  intro k
  induction k with
  | zero => exact Nat.le_refl 0
  | succ k ih =>
    rw [hbN_s]
    by_cases q : sst a k = 0 ∧ sck a k = d ∧ v < spg a k
    · rw [if_pos q]; omega
    · rw [if_neg q]; omega
theorem sm_add {f g : Nat → Nat} {s v : Nat} (hf : ∀ d, d ≠ s → f d = g d) (hs : f s = g s + v) : ∀ n, smN f n = smN g n + (if s < n then v else 0) := by
  intro n
  induction n with
  | zero => rfl
  | succ n ih =>
    rw [smN_s, smN_s, ih]
    by_cases e : n = s
    · subst e
      rw [if_neg (Nat.lt_irrefl n), if_pos (Nat.lt_succ_self n), hs]
      omega
    · rw [hf n e]
      by_cases w : s < n
      · rw [if_pos w, if_pos (by omega)]
        omega
      · rw [if_neg w, if_neg (by omega)]
        omega
theorem sm_lost {a : AS} {c n : Nat} : ∀ k, (∀ j, j < k → sck a j < n) → smN (fun d => hbN a d (keep a c d) k) n = lostN a c k := by
  intro k
  induction k with
  | zero =>
    intro _
    show smN (fun _ => 0) n = 0
    have : ∀ m, smN (fun _ => 0) m = 0 := by
      intro m
      induction m with
      | zero => rfl
      | succ m ih => rw [smN_s, ih]
    exact this n
  | succ k ih =>
    intro hk
    have hs := hk k (Nat.lt_succ_self k)
    have ih := ih (fun j hj => hk j (by omega))
    rw [lostN_s, ← ih]
    by_cases q : sst a k = 0 ∧ keep a c (sck a k) < spg a k
    · rw [if_pos q]
      have := sm_add (f := fun d => hbN a d (keep a c d) (k + 1)) (g := fun d => hbN a d (keep a c d) k) (s := sck a k) (v := 1) (fun d hd => ?_) ?_ n
      · rw [this, if_pos hs]
      · show hbN a d (keep a c d) (k + 1) = hbN a d (keep a c d) k
        rw [hbN_s, if_neg (fun z => hd z.2.1.symm)]
        rfl
      · show hbN a (sck a k) (keep a c (sck a k)) (k + 1) = hbN a (sck a k) (keep a c (sck a k)) k + 1
        rw [hbN_s, if_pos ⟨q.1, rfl, q.2⟩]
    · rw [if_neg q]
      have e : (fun d => hbN a d (keep a c d) (k + 1)) = fun d => hbN a d (keep a c d) k := by
        funext d
        rw [hbN_s, if_neg (fun z => q ⟨z.1, by rw [z.2.1]; exact z.2.2⟩)]
        rfl
      rw [e]
      rfl
theorem lC_countBehind {a : AS} {σ : St} (hI : Inv a) (h : RepC a σ) {d v : Nat} (hd : d < 2 ^ 31) (hv : v < 2 ^ 31) {Φ : Int32 → St → Prop} (kk : Φ (nI (hbN a d v (scn a))) σ) :
    ∀ (N i : Nat), i ≤ scn a → scn a - i < N → wlX6_countHeldBehind_5 Φ N (nI d) (nI v) (nI (hbN a d v i)) (nI i) σ := by
  have hsc := hI.1.2.2.2.2.2.2.1
  intro N
  induction N with
  | zero => intro i h1 h2; omega
  | succ N ih =>
    intro i hi hN
    show wlX6_countHeldBehind_5_body Φ (wlX6_countHeldBehind_5 Φ N) (nI d) (nI v) (nI (hbN a d v i)) (nI i) σ
    unfold wlX6_countHeldBehind_5_body wbX6_countHeldBehind_28
    rw [h.2.2.2.2.1.1]
    refine pk_le (scn a) i (fun q => ?_) (fun q => pC_isHeldBehind h hI q hd hv (brB (fun z y1 e1 => ?_) (fun z y5 e5 y1 e1 => ?_)))
    · have e : i = scn a := by omega
      subst e
      exact kk
    · have := ih (i + 1) (by omega) (by omega)
      rw [hbN_s, if_neg z] at this
      rw [e1, nI_1]
      exact this
    · have := ih (i + 1) (by omega) (by omega)
      rw [hbN_s, if_pos z] at this
      rw [e5, e1, nI_1, nI_1]
      exact this
theorem lC_tell39 {a : AS} {σ : St} (hI : Inv a) (h : RepC a σ) {c : Nat} (hc : c < nA a) (hL : LsR a c (keep a c) σ) {Φ : Int32 → St → Prop} (kk : Φ (nI (lostN a c (scn a))) σ) :
    ∀ (N i : Nat), i ≤ nA a → nA a - i < N → wlX2_tellLoss_39 Φ N (nI (smN (fun d => hbN a d (keep a c d) (scn a)) i)) (nI i) σ := by
  have hn := hI.1.1
  intro N
  induction N with
  | zero => intro i h1 h2; omega
  | succ N ih =>
    intro i hi hN
    show wlX2_tellLoss_39_body Φ (wlX2_tellLoss_39 Φ N) (nI (smN (fun d => hbN a d (keep a c d) (scn a)) i)) (nI i) σ
    unfold wlX2_tellLoss_39_body
    rw [h.1.1]
    refine pk_le (nA a) i (fun q => ?_) (fun q => pC_keptBy hI hL q ?_)
    · have e : i = nA a := by omega
      subst e
      rw [sm_lost (scn a) (fun j hj => (hI.2.1.2.2.2.2.2.2.2.1 j hj).1)]
      exact kk
    · have h23 := hI.1.2.1 i (by omega)
      have hke := keep_le hI.1 (c := c) (d := i) hc
      unfold wpX6_countHeldBehind
      refine ⟨scn a + 1, lC_countBehind hI h (by omega) (by omega) (fun y6 e6 y7 e7 => ?_) (scn a + 1) 0 (Nat.zero_le _) (by omega)⟩
      rw [e6, e7, nI_1, addI]
      exact ih (i + 1) (by omega) (by omega)
theorem pC_tellLoss {a : AS} {σ : St} (hI : Inv a) (h : RepC a σ) {c w : Nat} (hc : c < nA a) (hw : w < 2 ^ 31) {Φ : Int32 → St → Prop} (kk : ∀ t, RepC a t → Φ (nI (wdV a c w)) t) : wpX2_tellLoss (nI c) (nI w) σ Φ := by
  unfold wpX2_tellLoss
  have hn := hI.1.1
  unfold wdV at kk
  refine pC_foresee hI h hc (fun t ht hL => ?_)
  refine pk_eq w 0 (fun e => ?_) (fun e => pk_eq w 1 (fun e1 => ?_) (fun e1 => ⟨nA a + 1, ?_⟩))
  · rw [if_pos e] at kk
    exact pC_pagesGone hI hc hL (kk t ht)
  · rw [if_neg e, if_pos e1] at kk
    exact pC_clerksFelled hI hc hL (kk t ht)
  · rw [if_neg e, if_neg e1] at kk
    exact lC_tell39 hI ht hc hL (kk t ht) (nA a + 1) 0 (Nat.zero_le _) (by omega)
theorem lC_worst {a : AS} (hI : Inv a) {Φ : Int32 → St → Prop} (kk : ∀ t, RepC a t → Φ (nI (wst a (nA a))) t) :
    ∀ (N i m : Nat) (t : St), i ≤ nA a → nA a - i < N → RepC a t → (m = if i = 0 then 0 else goneOf a (wst a i) (nA a)) → wlX2_worstClerk_6 Φ N (nI (wst a i)) (nI m) (nI i) t := by
  have hn := hI.1.1
  intro N
  induction N with
  | zero => intro i m t h1 h2; omega
  | succ N ih =>
    intro i m t hi hN h em
    show wlX2_worstClerk_6_body Φ (wlX2_worstClerk_6 Φ N) (nI (wst a i)) (nI m) (nI i) t
    unfold wlX2_worstClerk_6_body wbX2_worstClerk_33
    rw [h.1.1]
    have g1 := goneOf_le hI.1 (c := wst a i) (nA a) hn.2
    have g2 := goneOf_le hI.1 (c := i) (nA a) hn.2
    have hm : m ≤ 115 := by
      rw [em]
      by_cases e : i = 0
      · rw [if_pos e]; omega
      · rw [if_neg e]; omega
    refine pk_le (nA a) i (fun q => ?_) (fun q => pC_tellLoss (w := 0) hI h q (by decide) (fun t2 h2 => ?_))
    · have e : i = nA a := by omega
      subst e
      exact kk t h
    · have ew : wdV a i 0 = goneOf a i (nA a) := if_pos rfl
      rw [ew]
      have es : wst a (i + 1) = if goneOf a (wst a i) (nA a) < goneOf a i (nA a) then i else wst a i := rfl
      refine pk_le (goneOf a i (nA a)) m (fun z y1 e1 => ?_) (fun z y1 e1 => ?_)
      · rw [e1, nI_1]
        by_cases e : i = 0
        · subst e
          rw [if_pos rfl] at em
          have w0 : wst a 0 = 0 := rfl
          have w1 := wst_1 a
          have := ih 1 0 t2 (by omega) (by omega) h2 (by rw [if_neg (by decide), w1]; omega)
          rw [w1] at this
          rw [em, w0]
          exact this
        · rw [if_neg e] at em
          have := ih (i + 1) m t2 (by omega) (by omega) h2 (by rw [if_neg (by omega), es, if_neg (by omega)]; exact em)
          rw [es, if_neg (by omega)] at this
          exact this
      · rw [e1, nI_1]
        by_cases e : i = 0
        · subst e
          have w1 := wst_1 a
          have := ih 1 (goneOf a 0 (nA a)) t2 (by omega) (by omega) h2 (by rw [if_neg (by decide), w1])
          rw [w1] at this
          exact this
        · rw [if_neg e] at em
          have := ih (i + 1) (goneOf a i (nA a)) t2 (by omega) (by omega) h2 (by rw [if_neg (by omega), es, if_pos (by omega)])
          rw [es, if_pos (by omega)] at this
          exact this
theorem pC_worst {a : AS} {σ : St} (hI : Inv a) (h : RepC a σ) {Φ : Int32 → St → Prop} (kk : ∀ t, RepC a t → Φ (nI (wst a (nA a))) t) : wpX2_worstClerk σ Φ := by
  unfold wpX2_worstClerk
  exact ⟨nA a + 1, lC_worst hI kk (nA a + 1) 0 0 σ (Nat.zero_le _) (by omega) h rfl⟩
