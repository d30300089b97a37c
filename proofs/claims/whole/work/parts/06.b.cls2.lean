-- THE CLASS: pages
theorem pC_addPage {a : AS} {σ : St} (h : RepC a σ) (hb : Bd a) (hs : Sm a) {c x : Nat} (hc : c < 5) (hnow : now a c < 23) (hx : x < 1000003) {Φ : Int32 → St → Prop} (kk : ∀ t, RepC (addA a c x) t → Φ (nI (now a c + 1)) t) : wpX0_addPage (5 + c) (nI x) σ Φ := by
  unfold wpX0_addPage
  obtain ⟨L1, L2, L3, L4, L5⟩ := ln_a hc
  obtain ⟨P1, P2, P3, P4, P5⟩ := pl_a c
  obtain ⟨⟨g0, g1, g2, g3, g4⟩, e2, ⟨f1, f2, f3, f4⟩, hrest⟩ := id h
  intro y1 e1
  rw [g2 c hc, nI_1] at e1
  rw [g2 c hc]
  refine pC_at (by rw [L2]; omega) (fun y4 e4 => ?_)
  have s1 := hs.1 c hc (now a c) (Nat.le_refl _)
  rw [P2, f2 c hc _ (Nat.le_refl _)] at e4
  have e4' : y4 = lN (3 * pgs a c (now a c) + x) := by
    rw [e4, nI_l (by omega), nI_l (by omega), show (3 : Int64) = lN 3 from rfl, lN_mul, lN_add, Nat.mul_comm]
  rw [e1]
  refine pC_put (by rw [L1]; omega) ?_
  rw [e4', show (1000003 : Int32) = nI 1000003 from rfl]
  refine pC_leftOver (by omega) (by decide) (by decide) ?_
  refine pC_put (by rw [L2]; omega) ?_
  have n1 : (w2 (w2 σ (13 + 3 * (5 + c)) (now a c + 1) (σ.1 (32 * (5 + c) + 1))) (14 + 3 * (5 + c)) (now a c + 1) (nI ((3 * pgs a c (now a c) + x) % 1000003))).1 (32 * (5 + c) + 2) = nI (now a c) := g2 c hc
  rw [n1]
  refine pC_copyRow (by omega) (by omega) (fun _ => by omega) (by rw [L4]; omega) (by rw [L5]; omega) (by rw [L4]; omega) (by rw [L5]; omega) (fun t9 h9 => ?_)
  rw [show 5 + c - 5 = c by omega]
  refine pC_set (by rw [L4]; omega) (by rw [L5]; omega) (fun t11 e11 => ?_)
  refine kk t11 ?_
  rw [P4, P5, P1, P2] at h9
  rw [P4, P5] at e11
  obtain ⟨q1, q2, q3, q4⟩ := h9
  have hl9 : t9.1 (32 * (5 + c) + 1) = nI (life a c) := by rw [q1]; exact g1 c hc
  rw [hl9] at e11
  have hl0 : σ.1 (32 * (5 + c) + 1) = nI (life a c) := g1 c hc
  rw [hl0] at q2 q3 q4
  have F : ∀ j, j ≠ 32 * (5 + c) + 2 → t11.1 j = σ.1 j := by
    intro j hj
    rw [e11, setI_1, if_neg hj, w2_1, w2_1, q1]
    rfl
  have R : ∀ j, j ≠ 16 + 2 * c → j ≠ 17 + 2 * c → j ≠ 28 + 3 * c → j ≠ 29 + 3 * c → t11.2 j = σ.2 j := by
    intro j h1 h2 h3 h4
    rw [e11, setI_2, w2_ne _ _ _ h2, w2_ne _ _ _ h1, q2 j h1 h2, w2_ne _ _ _ h4, w2_ne _ _ _ h3]
  have nowb : ∀ i, now (addA a c x) i = if i = c then now a c + 1 else now a i := fun i => rfl
  refine repC_clk h (fun j hj => F j (by omega)) (fun j hj => R j (by omega) (by omega) (by omega) (by omega)) (fun u hu => ?_) (fun i hi => ?_) (fun i hi => ?_) (fun i hi => ?_) (fun i hi => ?_) (fun i hi l hl => ?_) ⟨fun i hi k hk => ?_, fun i hi k hk => ?_, fun i hi k hk d hd => ?_, fun i hi k hk d hd => ?_⟩
  · unfold addA
    rw [sT_ne (by omega), sT_ne (by omega), sT_ne (by omega), sT_ne (by omega), sT_ne (by omega)]
  · rw [F _ (by omega)]
    exact g1 i hi
  · rw [nowb]
    by_cases e : i = c
    · rw [if_pos e, e, e11]
      exact if_pos rfl
    · rw [if_neg e, F _ (by omega)]
      exact g2 i hi
  · rw [F _ (by omega)]
    exact g3 i hi
  · rw [F _ (by omega)]
    exact g4 i hi
  · rw [R _ (by omega) (by omega) (by omega) (by omega)]
    exact e2 i hi l hl
  · rw [nowb] at hk
    show _ = nI (if i = c ∧ k = now a c + 1 then life a c else a 6 i k 0)
    by_cases e : i = c
    · subst e
      rw [if_pos rfl] at hk
      rw [e11, setI_2, w2_ne _ _ _ (by omega), w2_ne _ _ _ (by omega), q2 _ (by omega) (by omega), w2_ne _ _ _ (by omega), w2_at]
      by_cases z : k = now a i + 1
      · rw [if_pos z, if_pos ⟨rfl, z⟩]
      · rw [if_neg z, if_neg (fun w => z w.2)]
        exact f1 i hi k (by omega)
    · rw [if_neg e] at hk
      rw [if_neg (fun w => e w.1), R _ (by omega) (by omega) (by omega) (by omega)]
      exact f1 i hi k hk
  · rw [nowb] at hk
    show _ = nI (if i = c ∧ k = now a c + 1 then (3 * pgs a c (now a c) + x) % 1000003 else a 7 i k 0)
    by_cases e : i = c
    · subst e
      rw [if_pos rfl] at hk
      rw [e11, setI_2, w2_ne _ _ _ (by omega), w2_ne _ _ _ (by omega), q2 _ (by omega) (by omega), w2_at]
      by_cases z : k = now a i + 1
      · rw [if_pos z, if_pos ⟨rfl, z⟩]
      · rw [if_neg z, if_neg (fun w => z w.2), w2_ne _ _ _ (by omega)]
        exact f2 i hi k (by omega)
    · rw [if_neg e] at hk
      rw [if_neg (fun w => e w.1), R _ (by omega) (by omega) (by omega) (by omega)]
      exact f2 i hi k hk
  · rw [nowb] at hk
    show _ = nI (if i = c ∧ k = now a c + 1 then (if d = c then life a c else rsl a c (now a c) d) else a 8 i k d)
    by_cases e : i = c
    · subst e
      rw [if_pos rfl] at hk
      rw [e11, setI_2, w2_ne _ _ _ (by omega), w2_at]
      by_cases z : k = now a i + 1
      · rw [if_pos (show i = i ∧ k = now a i + 1 from ⟨rfl, z⟩)]
        by_cases y : d = i
        · rw [if_pos (by omega), if_pos y]
        · rw [if_neg (by omega), if_neg y, z, (q4 d hd).1, w2_ne _ _ _ (by omega), w2_ne _ _ _ (by omega)]
          exact f3 i hi _ (Nat.le_refl _) d hd
      · rw [if_neg (by omega), if_neg (fun w => z w.2), (q3 _ (by omega)).1, w2_ne _ _ _ (by omega), w2_ne _ _ _ (by omega)]
        exact f3 i hi k (by omega) d hd
    · rw [if_neg e] at hk
      rw [if_neg (fun w => e w.1), R _ (by omega) (by omega) (by omega) (by omega)]
      exact f3 i hi k hk d hd
  · rw [nowb] at hk
    show _ = nI (if i = c ∧ k = now a c + 1 then (if d = c then now a c + 1 else rsp a c (now a c) d) else a 9 i k d)
    by_cases e : i = c
    · subst e
      rw [if_pos rfl] at hk
      rw [e11, setI_2, w2_at]
      by_cases z : k = now a i + 1
      · rw [if_pos (show i = i ∧ k = now a i + 1 from ⟨rfl, z⟩)]
        by_cases y : d = i
        · rw [if_pos (by omega), if_pos y]
        · rw [if_neg (by omega), if_neg y, w2_ne _ _ _ (by omega), z, (q4 d hd).2, w2_ne _ _ _ (by omega), w2_ne _ _ _ (by omega)]
          exact f4 i hi _ (Nat.le_refl _) d hd
      · rw [if_neg (by omega), if_neg (fun w => z w.2), w2_ne _ _ _ (by omega), (q3 _ (by omega)).2, w2_ne _ _ _ (by omega), w2_ne _ _ _ (by omega)]
        exact f4 i hi k (by omega) d hd
    · rw [if_neg e] at hk
      rw [if_neg (fun w => e w.1), R _ (by omega) (by omega) (by omega) (by omega)]
      exact f4 i hi k hk d hd
theorem pC_work {a : AS} {σ : St} (hI : Inv a) (h : RepC a σ) {c x : Nat} (hc : c < nA a) (hx : x < 1000003) {Φ : Int32 → St → Prop} (kk : ∀ b r t, WorkR c x a b r → RepC b t → Φ r t) : wpX2_addWork (nI c) (nI x) σ Φ := by
  unfold wpX2_addWork
  have hn := hI.1.1
  have h23 := hI.1.2.1 c (by omega)
  refine pC_clerk (by omega) (pC_isFull h hI.1 (by omega) (brB (fun q => pC_clerk (by omega) (pC_addPage h hI.1 hI.2.1 (by omega) (by omega) hx (fun t ht => kk _ _ t (Or.inr ⟨by omega, rfl, rfl⟩) ht))) (fun q => kk _ _ σ (Or.inl ⟨q, rfl, rfl⟩) h)))
theorem comeB_tag (a : AS) (d m b u : Nat) (h8 : u ≠ 8) (h9 : u ≠ 9) : comeB a d m b u = addA a d (lsm a m) u := by
  unfold comeB
  rw [sT_ne h9, sT_ne h8]
theorem addA_tag (a : AS) (c x u : Nat) (hu : u = 0 ∨ u = 1 ∨ u = 3 ∨ u = 4 ∨ u = 5 ∨ 10 ≤ u) : addA a c x u = a u := by
  unfold addA
  rw [sT_ne (by omega), sT_ne (by omega), sT_ne (by omega), sT_ne (by omega), sT_ne (by omega)]
theorem comeC_new {a : AS} {t : St} {d m b : Nat} (hb : Bd a) (hd : d < 5) (hnow : now a d < 23) (hbn : b < 5) (h1 : b ≠ d) (h2 : later (lrl a m b) (lrp a m b) (rsl a d (now a d) b) (rsp a d (now a d) b)) (h : RepC (comeB a d m b) t) : RepC (comeB a d m (b + 1)) (w2 (w2 t (16 + 2 * d) (5 * (now a d + 1) + b) (nI (lrl a m b))) (17 + 2 * d) (5 * (now a d + 1) + b) (nI (lrp a m b))) := by
  obtain ⟨⟨g0, g1, g2, g3, g4⟩, e2, ⟨f1, f2, f3, f4⟩, hrest⟩ := id h
  refine repC_clk h (fun j hj => rfl) (fun j hj => ?_) (fun u hu => ?_) g1 g2 g3 g4 (fun i hi l hl => ?_) ⟨fun i hi k hk => ?_, fun i hi k hk => ?_, fun i hi k hk e he => ?_, fun i hi k hk e he => ?_⟩
  · rw [w2_ne _ _ _ (by omega), w2_ne _ _ _ (by omega)]
  · rw [comeB_tag _ _ _ _ _ (by omega) (by omega), comeB_tag _ _ _ _ _ (by omega) (by omega)]
  · rw [w2_ne _ _ _ (by omega), w2_ne _ _ _ (by omega)]
    exact e2 i hi l hl
  · rw [w2_ne _ _ _ (by omega), w2_ne _ _ _ (by omega)]
    exact f1 i hi k hk
  · rw [w2_ne _ _ _ (by omega), w2_ne _ _ _ (by omega)]
    exact f2 i hi k hk
  · show _ = nI ((comeB a d m (b + 1)) 8 i k e)
    rw [(comeB_new h1 h2 i k e).1, w2_ne _ _ _ (by omega), w2_rd]
    have f := f3 i hi k hk e he
    by_cases q : i = d ∧ k = now a d + 1 ∧ e = b
    · rw [if_pos q, if_pos (by omega), if_pos (by omega)]
    · rw [if_neg q]
      by_cases q2 : i = d
      · rw [if_pos (by omega), if_neg (by omega), show 16 + 2 * d = 16 + 2 * i by omega]
        exact f
      · rw [if_neg (by omega)]
        exact f
  · show _ = nI ((comeB a d m (b + 1)) 9 i k e)
    rw [(comeB_new h1 h2 i k e).2, w2_rd]
    have f := f4 i hi k hk e he
    by_cases q : i = d ∧ k = now a d + 1 ∧ e = b
    · rw [if_pos q, if_pos (by omega), if_pos (by omega)]
    · rw [if_neg q]
      by_cases q2 : i = d
      · rw [if_pos (by omega), if_neg (by omega), w2_ne _ _ _ (by omega), show 17 + 2 * d = 17 + 2 * i by omega]
        exact f
      · rw [if_neg (by omega), w2_ne _ _ _ (by omega)]
        exact f
theorem lC_restAlsoOn {a : AS} (hb : Bd a) (hs : Sm a) {d m : Nat} (hd : d < 5) (hm : m < lcn a) (hnow : now a d < 23) {Φ : St → Prop} (kk : ∀ t, RepC (comeB a d m 5) t → Φ t) :
    ∀ (N i : Nat) (t : St), i ≤ 5 → 5 - i < N → RepC (comeB a d m i) t → wlX0_restAlsoOn_2 (5 + d) 15 Φ N (nI m) (nI i) t := by
  have hlc := hb.2.2.2.2.2.1
  obtain ⟨L1, L2, L3, L4, L5⟩ := ln_a hd
  obtain ⟨P1, P2, P3, P4, P5⟩ := pl_a d
  intro N
  induction N with
  | zero => intro i t h1 h2; omega
  | succ N ih =>
    intro i t hi hN h
    show wlX0_restAlsoOn_2_body (5 + d) 15 Φ (wlX0_restAlsoOn_2 (5 + d) 15 Φ N) (nI m) (nI i) t
    unfold wlX0_restAlsoOn_2_body wbX0_restAlsoOn_39
    rw [show 5 + d - 5 = d by omega]
    refine pk_le 5 i (fun q => ?_) (fun q => pk_eq i d (fun e y1 e1 => ?_) (fun e => ?_))
    · have e : i = 5 := by omega
      subst e
      exact kk t h
    · rw [e1, nI_1]
      refine ih (i + 1) t (by omega) (by omega) ?_
      rw [comeB_skip (Or.inl e)]
      exact h
    · have hcl : cLen (2 * 15 - 4) = 200 ∧ cLen (2 * 15 - 3) = 200 := by decide
      have e26 : t.2 (2 * 15 - 4) (5 * m + i) = nI (lrl a m i) := h.2.2.2.1.2.2.2.2.1 m hm i (by omega)
      have e27 : t.2 (2 * 15 - 3) (5 * m + i) = nI (lrp a m i) := h.2.2.2.1.2.2.2.2.2 m hm i (by omega)
      have s1 := hs.2.2.2.1 m hm i (by omega)
      have s2 := hs.2.2.1 d hd (now a d) (Nat.le_refl _) i (by omega)
      refine pC_lifeOf (by rw [hcl.1]; omega) (pC_pageOf (by rw [hcl.2]; omega) ?_)
      have en : t.1 (32 * (5 + d) + 2) = nI (now a d + 1) := by
        rw [h.1.2.2.1 d hd, comeB_now]
      rw [e26, e27, en]
      have hle : now a d + 1 ≤ now (comeB a d m i) d := by rw [comeB_now]; exact Nat.le_refl _
      have r8 : t.2 (16 + 2 * d) (5 * (now a d + 1) + i) = nI (rsl a d (now a d) i) := by
        have := h.2.2.1.2.2.1 d hd (now a d + 1) hle i (by omega)
        rw [this]
        exact congrArg nI (comeB_at a e).1
      have r9 : t.2 (17 + 2 * d) (5 * (now a d + 1) + i) = nI (rsp a d (now a d) i) := by
        have := h.2.2.1.2.2.2 d hd (now a d + 1) hle i (by omega)
        rw [this]
        exact congrArg nI (comeB_at a e).2
      have skip : ¬ later (lrl a m i) (lrp a m i) (rsl a d (now a d) i) (rsp a d (now a d) i) → wbX5_raise_35 (5 + d + 5) (fun t7 => ∀ y1 : Int32, y1 = nI i + (1 : Int32) → wlX0_restAlsoOn_2 (5 + d) 15 Φ N (nI m) y1 t7) (nI (now a d + 1)) (nI i) (nI (lrl a m i)) (nI (lrp a m i)) t := by
        intro z
        unfold wbX5_raise_35 wbX5_raise_36
        refine ⟨fun _ y1 e1 => ?_, fun w => absurd rfl w⟩
        rw [e1, nI_1]
        refine ih (i + 1) t (by omega) (by omega) ?_
        rw [comeB_skip (Or.inr z)]
        exact h
      have set : later (lrl a m i) (lrp a m i) (rsl a d (now a d) i) (rsp a d (now a d) i) → wbX5_raise_36 (5 + d + 5) (fun t7 => ∀ y1 : Int32, y1 = nI i + (1 : Int32) → wlX0_restAlsoOn_2 (5 + d) 15 Φ N (nI m) y1 t7) (nI (now a d + 1)) (nI i) (nI (lrl a m i)) (nI (lrp a m i)) 1 t := by
        intro z
        unfold wbX5_raise_36
        refine ⟨fun w => absurd w (by decide), fun _ => pC_set (by rw [L4]; omega) (by rw [L5]; omega) (fun y1 e1 => ?_)⟩
        rw [e1, nI_1, P4, P5]
        exact ih (i + 1) _ (by omega) (by omega) (comeC_new hb hd hnow (by omega) e z h)
      unfold wpX5_raise
      refine pC_lifeOf (by rw [L4]; omega) ?_
      rw [P4, r8]
      refine pk_lt (rsl a d (now a d) i) (lrl a m i) (fun z => set (Or.inl z)) (fun z => pk_eq (lrl a m i) (rsl a d (now a d) i) (fun z2 => pC_pageOf (by rw [L5]; omega) ?_) (fun z2 => skip ?_))
      · rw [P5, r9]
        refine pk_le (lrp a m i) (rsp a d (now a d) i) (fun z3 => skip ?_) (fun z3 => set (Or.inr ⟨z2, z3⟩))
        rintro (y | y) <;> omega
      · rintro (y | y) <;> omega
theorem come_5 {a : AS} (hI : Inv a) {d m : Nat} (hm : m < lcn a) : comeB a d m 5 = comeB a d m (nA a) := by
  have hn := hI.1.1
  have key : ∀ e, e < 5 → later (lrl a m e) (lrp a m e) (rsl a d (now a d) e) (rsp a d (now a d) e) → e < nA a := by
    intro e he hl
    refine Classical.byContradiction (fun z => ?_)
    obtain ⟨q1, q2⟩ := hI.2.2.2.2.2.1 m hm e (by omega) he
    rcases hl with y | y <;> omega
  have st : ∀ b, nA a ≤ b → b < 5 → comeB a d m (b + 1) = comeB a d m b := by
    intro b h1 h2
    refine comeB_skip (Or.inr (fun z => ?_))
    have := key b h2 z
    omega
  rcases (show nA a = 2 ∨ nA a = 3 ∨ nA a = 4 ∨ nA a = 5 by omega) with e | e | e | e
  · rw [e, st 4 (by omega) (by decide), st 3 (by omega) (by decide), st 2 (by omega) (by decide)]
  · rw [e, st 4 (by omega) (by decide), st 3 (by omega) (by decide)]
  · rw [e, st 4 (by omega) (by decide)]
  · rw [e]
theorem pC_restAlsoOn {a : AS} {σ : St} (hI : Inv a) {d m : Nat} (hd : d < nA a) (hm : m < lcn a) (hnow : now a d < 23) (h : RepC (addA a d (lsm a m)) σ) {Φ : St → Prop} (kk : ∀ t, RepC (comeB a d m (nA a)) t → Φ t) : wpX0_restAlsoOn (5 + d) 15 (nI m) σ Φ := by
  unfold wpX0_restAlsoOn
  have hn := hI.1.1
  refine ⟨6, lC_restAlsoOn hI.1 hI.2.1 (by omega) hm hnow (fun t ht => ?_) 6 0 σ (by omega) (by omega) ?_⟩
  · rw [come_5 hI hm] at ht
    exact kk t ht
  · rw [comeB_0]
    exact h
theorem minI {x y : Nat} (hx : x < 2 ^ 31) (hy : y < 2 ^ 31) : (if nI x < nI y then nI x else nI y) = nI (if x < y then x else y) := by
  by_cases q : x < y
  · rw [if_pos ((nI_ltI hx hy).mpr q), if_pos q]
  · rw [if_neg (fun z => q ((nI_ltI hx hy).mp z)), if_neg q]
theorem pC_writeMore {a : AS} {σ : St} (h : RepC a σ) (hb : Bd a) {c m : Nat} (hc : c < 5) (hm : m < 1000) {Φ : Int32 → St → Prop} (kk : ∀ t, RepC (writeA a c m) t → Φ (nI (wri (writeA a c m) c)) t) : wpX0_writeMore (5 + c) (nI m) σ Φ := by
  unfold wpX0_writeMore
  obtain ⟨⟨g0, g1, g2, g3, g4⟩, e2, e3, hrest⟩ := id h
  have h23 := hb.2.1 c hc
  have hw := hb.2.2.1 c hc
  have ev : wri (writeA a c m) c = if wri a c + m < now a c then wri a c + m else now a c := if_pos rfl
  rw [g2 c hc, g3 c hc, addI]
  intro t1 e1
  have e1' : t1 = setI σ (32 * (5 + c) + 3) (nI (wri (writeA a c m) c)) := by
    rw [e1, ev, minI (by omega) (by omega)]
  have hv : t1.1 (32 * (5 + c) + 3) = nI (wri (writeA a c m) c) := by
    rw [e1']
    exact if_pos rfl
  rw [hv]
  refine kk t1 ?_
  have F : ∀ j, j ≠ 32 * (5 + c) + 3 → t1.1 j = σ.1 j := by
    intro j hj
    rw [e1', setI_1, if_neg hj]
  have e2' : t1.2 = σ.2 := by rw [e1']; rfl
  refine repC_clk h (fun j hj => F j (by omega)) (fun j hj => by rw [e2']) (fun u hu => sT_ne (by omega)) (fun i hi => ?_) (fun i hi => ?_) (fun i hi => ?_) (fun i hi => ?_) (fun i hi l hl => ?_) ?_
  · rw [F _ (by omega)]
    exact g1 i hi
  · rw [F _ (by omega)]
    exact g2 i hi
  · by_cases e : i = c
    · rw [e]
      exact hv
    · rw [F _ (by omega), g3 i hi]
      show nI (wri a i) = nI (if i = c then _ else wri a i)
      rw [if_neg e]
  · rw [F _ (by omega)]
    exact g4 i hi
  · rw [e2']
    exact e2 i hi l hl
  · unfold C3
    rw [e2']
    exact e3
