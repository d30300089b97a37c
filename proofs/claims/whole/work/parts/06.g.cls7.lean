-- THE CLASS: a loss
/-- those of F have fallen; the sayings of the first s clerks are looked at -/
noncomputable def plG (a : AS) (c : Nat) (F : Nat → Prop) (s : Nat) : AS := fun t x j k => @ite Nat (t = 19 ∧ sst a x = 0 ∧ sck a x < s ∧ keep a c (sck a x) < spg a x) (Classical.propDecidable _) 2 (midA a c F t x j k)
theorem plG_tag {a : AS} {c : Nat} {F : Nat → Prop} {s t : Nat} (h : t ≠ 19) : plG a c F s t = midA a c F t := by
  funext x j k
  exact if_neg (fun z => h z.1)
theorem plG_oth {a : AS} {c : Nat} {F : Nat → Prop} {s t : Nat} (h : t ≠ 1 ∧ t ≠ 2 ∧ t ≠ 3 ∧ t ≠ 5) (h19 : t ≠ 19) : plG a c F s t = a t := by
  rw [plG_tag h19, mid_oth h]
theorem plG_sst {a : AS} {c : Nat} {F : Nat → Prop} {s x : Nat} : ((sst a x = 0 ∧ sck a x < s ∧ keep a c (sck a x) < spg a x) → sst (plG a c F s) x = 2) ∧ (¬ (sst a x = 0 ∧ sck a x < s ∧ keep a c (sck a x) < spg a x) → sst (plG a c F s) x = sst a x) := by
  constructor
  · intro h
    exact if_pos ⟨rfl, h⟩
  · intro h
    refine (if_neg (fun z => h z.2)).trans ?_
    rw [mid_oth ⟨by decide, by decide, by decide, by decide⟩]
theorem plG_0 {a : AS} {c : Nat} : plG a c (fun _ => False) 0 = a := by
  funext t x j k
  refine (if_neg (fun z => absurd z.2.2.1 (Nat.not_lt_zero _))).trans ?_
  rw [mid_none]
theorem repC_fall {a : AS} {c d : Nat} (hb : Bd a) (hc : c < nA a) (hd : d < 5) {F : Nat → Prop} (hF : ¬ F d) {s : Nat} {σ t : St} (h : RepC (plG a c F s) σ) (hl : life a d < 60) (et : t = setI (setI (setI (w2 σ (30 + 3 * d) (life a d) (nI (keep a c d))) (32 * (5 + d) + 1) (nI (life a d + 1))) (32 * (5 + d) + 2) (nI (keep a c d))) (32 * (5 + d) + 3) (nI (if wri a d < keep a c d then wri a d else keep a c d))) : RepC (plG a c (fun i => F i ∨ i = d) s) t := by
  obtain ⟨⟨g0, g1, g2, g3, g4⟩, e2, ⟨f1, f2, f3, f4⟩, hrest⟩ := id h
  have A : ∀ i, i ≠ d → (F i ∨ i = d) = F i := fun i hi => propext ⟨fun q => q.resolve_right hi, Or.inl⟩
  have tg : ∀ u, u ≠ 1 → u ≠ 2 → u ≠ 3 → u ≠ 5 → plG a c (fun i => F i ∨ i = d) s u = plG a c F s u := by
    intro u h1 h2 h3 h5
    funext x j k
    unfold plG
    rw [mid_oth (F := fun i => F i ∨ i = d) ⟨h1, h2, h3, h5⟩, mid_oth (F := F) ⟨h1, h2, h3, h5⟩]
  have L : ∀ i, life (plG a c (fun i => F i ∨ i = d) s) i = if i = d then life a d + 1 else life (plG a c F s) i := by
    intro i
    show plG a c (fun i => F i ∨ i = d) s 1 i 0 0 = if i = d then life a d + 1 else plG a c F s 1 i 0 0
    rw [plG_tag (by decide), plG_tag (by decide)]
    by_cases e : i = d
    · rw [if_pos e, e]
      exact mid_life.1 (Or.inr rfl)
    · rw [if_neg e]
      show life (midA a c (fun i => F i ∨ i = d)) i = life (midA a c F) i
      by_cases w : F i
      · rw [mid_life.1 w, mid_life.1 (Or.inl w)]
      · rw [mid_life.2 w, mid_life.2 (fun z => w (z.resolve_right e))]
  have Nw : ∀ i, now (plG a c (fun i => F i ∨ i = d) s) i = if i = d then keep a c d else now (plG a c F s) i := by
    intro i
    show plG a c (fun i => F i ∨ i = d) s 2 i 0 0 = if i = d then keep a c d else plG a c F s 2 i 0 0
    rw [plG_tag (by decide), plG_tag (by decide)]
    by_cases e : i = d
    · rw [if_pos e, e]
      exact mid_now.1 (Or.inr rfl)
    · rw [if_neg e]
      show now (midA a c (fun i => F i ∨ i = d)) i = now (midA a c F) i
      by_cases w : F i
      · rw [mid_now.1 w, mid_now.1 (Or.inl w)]
      · rw [mid_now.2 w, mid_now.2 (fun z => w (z.resolve_right e))]
  have Wr : ∀ i, wri (plG a c (fun i => F i ∨ i = d) s) i = if i = d then (if wri a d < keep a c d then wri a d else keep a c d) else wri (plG a c F s) i := by
    intro i
    show plG a c (fun i => F i ∨ i = d) s 3 i 0 0 = if i = d then _ else plG a c F s 3 i 0 0
    rw [plG_tag (by decide), plG_tag (by decide)]
    by_cases e : i = d
    · rw [if_pos e, e]
      exact mid_wri.1 (Or.inr rfl)
    · rw [if_neg e]
      show wri (midA a c (fun i => F i ∨ i = d)) i = wri (midA a c F) i
      by_cases w : F i
      · rw [mid_wri.1 w, mid_wri.1 (Or.inl w)]
      · rw [mid_wri.2 w, mid_wri.2 (fun z => w (z.resolve_right e))]
  have En : ∀ i j, ends (plG a c (fun i => F i ∨ i = d) s) i j = if i = d ∧ j = life a d then keep a c d else ends (plG a c F s) i j := by
    intro i j
    show plG a c (fun i => F i ∨ i = d) s 5 i j 0 = if i = d ∧ j = life a d then keep a c d else plG a c F s 5 i j 0
    rw [plG_tag (by decide), plG_tag (by decide)]
    by_cases e : i = d ∧ j = life a d
    · rw [if_pos e, e.1]
      exact mid_ends.1 (Or.inr rfl) e.2
    · rw [if_neg e]
      show ends (midA a c (fun i => F i ∨ i = d)) i j = ends (midA a c F) i j
      by_cases w : F i ∧ j = life a i
      · rw [mid_ends.1 w.1 w.2, mid_ends.1 (Or.inl w.1) w.2]
      · rw [mid_ends.2 w, mid_ends.2 (fun z => ?_)]
        rcases z.1 with y | y
        · exact w ⟨y, z.2⟩
        · exact e ⟨y, by rw [← y]; exact z.2⟩
  have Fd : ∀ j, j ≠ 32 * (5 + d) + 1 → j ≠ 32 * (5 + d) + 2 → j ≠ 32 * (5 + d) + 3 → t.1 j = σ.1 j := by
    intro j h1 h2 h3
    rw [et, setI_1, if_neg h3, setI_1, if_neg h2, setI_1, if_neg h1]
    rfl
  have Rw : ∀ b, b ≠ 30 + 3 * d → t.2 b = σ.2 b := by
    intro b hb
    rw [et, setI_2, setI_2, setI_2, w2_ne _ _ _ hb]
  have kn := keep_le hb (c := c) (d := d) hc
  have nowd : now (plG a c F s) d = now a d := by
    show plG a c F s 2 d 0 0 = _
    rw [plG_tag (by decide)]
    exact mid_now.2 hF
  have lifd : life (plG a c F s) d = life a d := by
    show plG a c F s 1 d 0 0 = _
    rw [plG_tag (by decide)]
    exact mid_life.2 hF
  have nle : ∀ i k, k ≤ now (plG a c (fun i => F i ∨ i = d) s) i → k ≤ now (plG a c F s) i := by
    intro i k hk
    rw [Nw] at hk
    by_cases e : i = d
    · rw [if_pos e] at hk
      rw [e, nowd]
      omega
    · rw [if_neg e] at hk
      exact hk
  refine repC_clk h (fun j hj => Fd j (by omega) (by omega) (by omega)) (fun j hj => Rw j (by omega)) (fun u hu => tg u (by omega) (by omega) (by omega) (by omega)) (fun i hi => ?_) (fun i hi => ?_) (fun i hi => ?_) (fun i hi => ?_) (fun i hi l hl2 => ?_) ⟨fun i hi k hk => ?_, fun i hi k hk => ?_, fun i hi k hk e he => ?_, fun i hi k hk e he => ?_⟩
  · rw [L]
    by_cases e : i = d
    · rw [if_pos e, e, et, setI_1, if_neg (by omega), setI_1, if_neg (by omega), setI_1, if_pos rfl]
    · rw [if_neg e, Fd _ (by omega) (by omega) (by omega)]
      exact g1 i hi
  · rw [Nw]
    by_cases e : i = d
    · rw [if_pos e, e, et, setI_1, if_neg (by omega), setI_1, if_pos rfl]
    · rw [if_neg e, Fd _ (by omega) (by omega) (by omega)]
      exact g2 i hi
  · rw [Wr]
    by_cases e : i = d
    · rw [if_pos e, e, et, setI_1, if_pos rfl]
    · rw [if_neg e, Fd _ (by omega) (by omega) (by omega)]
      exact g3 i hi
  · rw [Fd _ (by omega) (by omega) (by omega)]
    refine (g4 i hi).trans ?_
    show nI (plG a c F s 4 i 0 0) = nI (plG a c (fun i => F i ∨ i = d) s 4 i 0 0)
    rw [tg 4 (by decide) (by decide) (by decide) (by decide)]
  · rw [L] at hl2
    rw [En]
    by_cases e : i = d
    · subst e
      rw [if_pos rfl] at hl2
      rw [et, setI_2, setI_2, setI_2, w2_at]
      by_cases z : l = life a i
      · rw [if_pos z, if_pos ⟨rfl, z⟩]
      · rw [if_neg z, if_neg (fun y => z y.2)]
        exact e2 i hi l (by rw [lifd]; omega)
    · rw [if_neg e] at hl2
      rw [if_neg (fun y => e y.1), Rw _ (by omega)]
      exact e2 i hi l hl2
  · rw [Rw _ (by omega)]
    refine (f1 i hi k (nle i k hk)).trans ?_
    show nI (plG a c F s 6 i k 0) = nI (plG a c (fun i => F i ∨ i = d) s 6 i k 0)
    rw [tg 6 (by decide) (by decide) (by decide) (by decide)]
  · rw [Rw _ (by omega)]
    refine (f2 i hi k (nle i k hk)).trans ?_
    show nI (plG a c F s 7 i k 0) = nI (plG a c (fun i => F i ∨ i = d) s 7 i k 0)
    rw [tg 7 (by decide) (by decide) (by decide) (by decide)]
  · rw [Rw _ (by omega)]
    refine (f3 i hi k (nle i k hk) e he).trans ?_
    show nI (plG a c F s 8 i k e) = nI (plG a c (fun i => F i ∨ i = d) s 8 i k e)
    rw [tg 8 (by decide) (by decide) (by decide) (by decide)]
  · rw [Rw _ (by omega)]
    refine (f4 i hi k (nle i k hk) e he).trans ?_
    show nI (plG a c F s 9 i k e) = nI (plG a c (fun i => F i ∨ i = d) s 9 i k e)
    rw [tg 9 (by decide) (by decide) (by decide) (by decide)]
theorem pC_fallBack {a : AS} (hI : Inv a) {c d : Nat} (hc : c < nA a) (hd : d < 5) {F : Nat → Prop} (hF : ¬ F d) {s : Nat} {σ : St} (h : RepC (plG a c F s) σ) (hl : life a d < 60) (hL : LsR a c (keep a c) σ) {Φ : St → Prop} (kk : ∀ t, RepC (plG a c (fun i => F i ∨ i = d) s) t → LsR a c (keep a c) t → Φ t) : wpX0_fallBack (5 + d) (nI (keep a c d)) σ Φ := by
  unfold wpX0_fallBack
  obtain ⟨L1, L2, L3, L4, L5⟩ := ln_a hd
  obtain ⟨P1, P2, P3, P4, P5⟩ := pl_a d
  have kn := keep_le hI.1 (c := c) (d := d) hc
  have h23 := hI.1.2.1 d hd
  have hw := hI.1.2.2.1 d hd
  have lifd : σ.1 (32 * (5 + d) + 1) = nI (life a d) := by
    rw [h.1.2.1 d hd]
    show nI (plG a c F s 1 d 0 0) = _
    rw [plG_tag (by decide)]
    exact congrArg nI (mid_life.2 hF)
  have wrid : σ.1 (32 * (5 + d) + 3) = nI (wri a d) := by
    rw [h.1.2.2.2.1 d hd]
    show nI (plG a c F s 3 d 0 0) = _
    rw [plG_tag (by decide)]
    exact congrArg nI (mid_wri.2 hF)
  rw [lifd]
  refine pC_put (by rw [L3]; exact hl) (fun t2 e2 t3 e3 t4 e4 => ?_)
  rw [P3] at e2
  rw [show (w2 σ (30 + 3 * d) (life a d) (nI (keep a c d))).1 (32 * (5 + d) + 1) = nI (life a d) from lifd, nI_1] at e2
  have w3 : t3.1 (32 * (5 + d) + 3) = nI (wri a d) := by
    rw [e3, setI_1, if_neg (by omega), e2, setI_1, if_neg (by omega)]
    exact wrid
  rw [w3] at e4
  have mn : (if nI (keep a c d) < nI (wri a d) then nI (keep a c d) else nI (wri a d)) = nI (if wri a d < keep a c d then wri a d else keep a c d) := by
    rw [minI (by omega) (by omega)]
    congr 1
    by_cases q : keep a c d < wri a d
    · rw [if_pos q, if_neg (by omega)]
    · rw [if_neg q]
      by_cases q2 : wri a d < keep a c d
      · rw [if_pos q2]
      · rw [if_neg q2]
        omega
  rw [mn] at e4
  have et : t4 = setI (setI (setI (w2 σ (30 + 3 * d) (life a d) (nI (keep a c d))) (32 * (5 + d) + 1) (nI (life a d + 1))) (32 * (5 + d) + 2) (nI (keep a c d))) (32 * (5 + d) + 3) (nI (if wri a d < keep a c d then wri a d else keep a c d)) := by rw [e4, e3, e2]
  refine kk t4 (repC_fall hI.1 hc hd hF h hl et) ?_
  have Fd : ∀ j, j < 160 → t4.1 j = σ.1 j := by
    intro j hj
    rw [et, setI_1, if_neg (by omega), setI_1, if_neg (by omega), setI_1, if_neg (by omega)]
    rfl
  have Rw : ∀ b, 43 ≤ b → t4.2 b = σ.2 b := by
    intro b hb
    rw [et, setI_2, setI_2, setI_2, w2_ne _ _ _ (by omega)]
  unfold LsR
  rw [Fd 128 (by decide), Fd 129 (by decide), Rw 50 (by decide), Rw 51 (by decide)]
  exact hL
/-- what is needed of sayings -/
def Sy (a : AS) : Prop := scn a ≤ 30 ∧ ∀ k, k < scn a → sck a k < 5 ∧ spg a k ≤ 23 ∧ sst a k ≤ 2
theorem pC_heldBehindS {a : AS} {σ : St} (h : RepC a σ) (hy : Sy a) {k c v : Nat} (hk : k < scn a) (hc : c < 2 ^ 31) (hv : v < 2 ^ 31) {Φ : Int32 → St → Prop} (kk : Φ (b01 (sst a k = 0 ∧ sck a k = c ∧ v < spg a k)) σ) : wpX6_isHeldBehind (nI k) (nI c) (nI v) σ Φ := by
  unfold wpX6_isHeldBehind wpX6_isHeld
  have hsc := hy.1
  have s := hy.2 k hk
  have hcl : cLen 46 = 30 ∧ cLen 47 = 30 ∧ cLen 48 = 30 := by decide
  rw [h.2.2.2.2.1.1]
  refine ⟨fun z => absurd z (nI_pos (by omega)), fun _ => pk_le (scn a) k (fun z => absurd z (by omega)) (fun _ => pC_at (by rw [hcl.2.2]; omega) ?_)⟩
  rw [h.2.2.2.2.1.2.2.2.1 k hk]
  refine pk_eq (sst a k) 0 (fun z => ⟨fun w => absurd w (by decide), fun _ => pC_at (by rw [hcl.1]; omega) ?_⟩) (fun z => ⟨fun _ => ?_, fun w => absurd rfl w⟩)
  · rw [h.2.2.2.2.1.2.1 k hk]
    refine pk_eq (sck a k) c (fun z2 => pC_at (by rw [hcl.2.1]; omega) ?_) (fun z2 => ?_)
    · rw [h.2.2.2.2.1.2.2.1 k hk]
      refine pk_le (spg a k) v (fun z3 => ?_) (fun z3 => ?_)
      · rw [b01_f (fun y => by have := y.2.2; omega)] at kk
        exact kk
      · rw [b01_t ⟨z, z2, z3⟩] at kk
        exact kk
    · rw [b01_f (fun y => z2 y.2.1)] at kk
      exact kk
  · rw [b01_f (fun y => z y.1)] at kk
    exact kk
/-- the first i sayings of d that lie behind v are lost -/
noncomputable def lsI (b : AS) (d v i : Nat) : AS := fun t x j k => @ite Nat (t = 19 ∧ x < i ∧ sst b x = 0 ∧ sck b x = d ∧ v < spg b x) (Classical.propDecidable _) 2 (b t x j k)
theorem lsI_tag {b : AS} {d v i t : Nat} (h : t ≠ 19) : lsI b d v i t = b t := by
  funext x j k
  exact if_neg (fun z => h z.1)
theorem lsI_sst {b : AS} {d v i x : Nat} : ((x < i ∧ sst b x = 0 ∧ sck b x = d ∧ v < spg b x) → sst (lsI b d v i) x = 2) ∧ (¬ (x < i ∧ sst b x = 0 ∧ sck b x = d ∧ v < spg b x) → sst (lsI b d v i) x = sst b x) := by
  constructor
  · intro h
    exact if_pos ⟨rfl, h⟩
  · intro h
    exact if_neg (fun z => h z.2)
theorem lsI_0 (b : AS) (d v : Nat) : lsI b d v 0 = b := by
  funext t x j k
  exact if_neg (fun z => absurd z.2.1 (Nat.not_lt_zero _))
theorem lsI_skip {b : AS} {d v i : Nat} (h : ¬ (sst b i = 0 ∧ sck b i = d ∧ v < spg b i)) : lsI b d v (i + 1) = lsI b d v i := by
  funext t x j k
  unfold lsI
  by_cases q : t = 19 ∧ x < i ∧ sst b x = 0 ∧ sck b x = d ∧ v < spg b x
  · rw [if_pos q, if_pos ⟨q.1, by omega, q.2.2⟩]
  · rw [if_neg q, if_neg (fun z => ?_)]
    by_cases e : x = i
    · rw [e] at z
      exact h z.2.2
    · exact q ⟨z.1, by omega, z.2.2⟩
theorem lC_loseBehind {b : AS} (hy : Sy b) {d v : Nat} (hd : d < 2 ^ 31) (hv : v < 2 ^ 31) {Φ : St → Prop} {a : AS} {c : Nat} (kk : ∀ t, RepC (lsI b d v (scn b)) t → LsR a c (keep a c) t → Φ t) :
    ∀ (N i : Nat) (t : St), i ≤ scn b → scn b - i < N → RepC (lsI b d v i) t → LsR a c (keep a c) t → wlX6_loseBehind_2 Φ N (nI d) (nI v) (nI i) t := by
  have hsc := hy.1
  have hcl : cLen 48 = 30 := by decide
  intro N
  induction N with
  | zero => intro i t h1 h2; omega
  | succ N ih =>
    intro i t hi hN h hL
    show wlX6_loseBehind_2_body Φ (wlX6_loseBehind_2 Φ N) (nI d) (nI v) (nI i) t
    unfold wlX6_loseBehind_2_body wbX6_loseBehind_29
    have e16 : scn (lsI b d v i) = scn b := by show lsI b d v i 16 0 0 0 = _; rw [lsI_tag (by decide)]
    have ssi : sst (lsI b d v i) i = sst b i := lsI_sst.2 (fun z => absurd z.1 (Nat.lt_irrefl i))
    have ski : ∀ x, sck (lsI b d v i) x = sck b x := fun x => by show lsI b d v i 17 x 0 0 = _; rw [lsI_tag (by decide)]
    have spi : ∀ x, spg (lsI b d v i) x = spg b x := fun x => by show lsI b d v i 18 x 0 0 = _; rw [lsI_tag (by decide)]
    have hy2 : Sy (lsI b d v i) := by
      refine ⟨by rw [e16]; exact hsc, fun k hk => ?_⟩
      rw [e16] at hk
      rw [ski, spi]
      have s := hy.2 k hk
      refine ⟨s.1, s.2.1, ?_⟩
      by_cases q : k < i ∧ sst b k = 0 ∧ sck b k = d ∧ v < spg b k
      · rw [lsI_sst.1 q]; decide
      · rw [lsI_sst.2 q]; exact s.2.2
    rw [h.2.2.2.2.1.1, e16]
    refine pk_le (scn b) i (fun q => ?_) (fun q => ?_)
    · have e : i = scn b := by omega
      subst e
      exact kk t h hL
    · refine pC_heldBehindS h hy2 (by rw [e16]; exact q) hd hv ?_
      rw [ssi, ski, spi]
      refine brB (fun z y1 e1 => ?_) (fun z => pC_put (by rw [hcl]; omega) (fun y1 e1 => ?_))
      · rw [e1, nI_1]
        refine ih (i + 1) t (by omega) (by omega) ?_ hL
        rw [lsI_skip z]
        exact h
      · rw [e1, nI_1]
        obtain ⟨s0, s1, s2, s3, s4, s5⟩ := h.2.2.2.2.1
        refine ih (i + 1) _ (by omega) (by omega) (repC_say h (fun j _ _ => rfl) (fun j hj => w2_ne _ _ _ (by omega)) (fun u hu => ?_) ⟨?_, fun k hk => ?_, fun k hk => ?_, fun k hk => ?_, ?_, fun k hk => ?_⟩) ⟨hL.1, hL.2.1, ?_, ?_⟩
        · rw [lsI_tag (by omega), lsI_tag (by omega)]
        · refine s0.trans ?_
          show nI (lsI b d v i 16 0 0 0) = nI (lsI b d v (i + 1) 16 0 0 0)
          rw [lsI_tag (by decide), lsI_tag (by decide)]
        · rw [w2_ne _ _ _ (by decide)]
          have hk' : k < scn (lsI b d v i) := by
            have hk : k < lsI b d v (i + 1) 16 0 0 0 := hk
            rw [lsI_tag (by decide)] at hk
            rw [e16]
            exact hk
          refine (s1 k hk').trans ?_
          show nI (lsI b d v i 17 k 0 0) = nI (lsI b d v (i + 1) 17 k 0 0)
          rw [lsI_tag (by decide), lsI_tag (by decide)]
        · rw [w2_ne _ _ _ (by decide)]
          have hk' : k < scn (lsI b d v i) := by
            have hk : k < lsI b d v (i + 1) 16 0 0 0 := hk
            rw [lsI_tag (by decide)] at hk
            rw [e16]
            exact hk
          refine (s2 k hk').trans ?_
          show nI (lsI b d v i 18 k 0 0) = nI (lsI b d v (i + 1) 18 k 0 0)
          rw [lsI_tag (by decide), lsI_tag (by decide)]
        · have hk' : k < scn (lsI b d v i) := by
            have hk : k < lsI b d v (i + 1) 16 0 0 0 := hk
            rw [lsI_tag (by decide)] at hk
            rw [e16]
            exact hk
          rw [w2_at]
          by_cases e : k = i
          · rw [if_pos e, e, lsI_sst.1 ⟨Nat.lt_succ_self i, z⟩]; rfl
          · rw [if_neg e]
            refine (s3 k hk').trans ?_
            congr 1
            by_cases y : k < i ∧ sst b k = 0 ∧ sck b k = d ∧ v < spg b k
            · rw [lsI_sst.1 y, lsI_sst.1 ⟨by omega, y.2⟩]
            · rw [lsI_sst.2 y, lsI_sst.2 (fun w => y ⟨by omega, w.2⟩)]
        · refine s4.trans ?_
          show nI (lsI b d v i 20 0 0 0) = nI (lsI b d v (i + 1) 20 0 0 0)
          rw [lsI_tag (by decide), lsI_tag (by decide)]
        · rw [w2_ne _ _ _ (by decide)]
          have hk' : k < rcn (lsI b d v i) := by
            have hk : k < lsI b d v (i + 1) 20 0 0 0 := hk
            rw [lsI_tag (by decide)] at hk
            show k < lsI b d v i 20 0 0 0
            rw [lsI_tag (by decide)]
            exact hk
          refine (s5 k hk').trans ?_
          show nI (lsI b d v i 21 k 0 0) = nI (lsI b d v (i + 1) 21 k 0 0)
          rw [lsI_tag (by decide), lsI_tag (by decide)]
        · rw [w2_ne _ _ _ (by decide)]
          exact hL.2.2.1
        · rw [w2_ne _ _ _ (by decide)]
          exact hL.2.2.2
theorem pC_loseBehind {b : AS} {σ : St} (hy : Sy b) (h : RepC b σ) {d v : Nat} (hd : d < 2 ^ 31) (hv : v < 2 ^ 31) {Φ : St → Prop} {a : AS} {c : Nat} (hL : LsR a c (keep a c) σ) (kk : ∀ t, RepC (lsI b d v (scn b)) t → LsR a c (keep a c) t → Φ t) : wpX6_loseBehind (nI d) (nI v) σ Φ := by
  unfold wpX6_loseBehind
  refine ⟨scn b + 1, lC_loseBehind hy hd hv kk (scn b + 1) 0 σ (Nat.zero_le _) (by omega) ?_ hL⟩
  rw [lsI_0]
  exact h
