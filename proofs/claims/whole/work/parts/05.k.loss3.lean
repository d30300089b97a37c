theorem mid_n {a : AS} {c : Nat} {F : Nat → Prop} : nA (midA a c F) = nA a := congrFun (congrFun (congrFun (mid_oth (by decide)) 0) 0) 0
theorem lM_loses28 {a : AS} (hb : Bd a) (hs : Sm a) {c g : Nat} (hc : c < nA a) {μ1 t0 : St} (h : RepM (midA a c (felled a c)) μ1) (e0 : t0 = setI μ1 16 (nI (gon a + goneOf a c (nA a)))) {Φ : Int32 → St → Prop} (kk : ∀ t, RepM (lossA a c) t → Φ (nI g) t) :
    ∀ (N k : Nat) (t : St), k ≤ scn a → scn a - k < N → t.1 = t0.1 → (∀ b, b ≠ 11 → t.2 b = t0.2 b) → (∀ i, i < scn a → t.2 11 (3 * i) = nI (sck a i)) → (∀ i, i < scn a → t.2 11 (3 * i + 1) = nI (spg a i)) → (∀ i, i < scn a → t.2 11 (3 * i + 2) = nI (if i < k then sst (lossA a c) i else sst a i)) → wlX10_losesNow_28 Φ N (nI g) (nI k) t := by
  have hn := hb.1
  have hsc := hb.2.2.2.2.2.2.1
  obtain ⟨⟨g0, g1, g2, g3, g4⟩, h2, h3, h4, ⟨s0, s1, s2, s3, s4, s5⟩, ⟨r0, r1, r2, r3⟩, ⟨u0, u1, u2⟩⟩ := id h
  have o : ∀ t, t ≠ 1 → t ≠ 2 → t ≠ 3 → t ≠ 5 → t ≠ 19 → t ≠ 22 → lossA a c t = a t := fun t q1 q2 q3 q5 q19 q22 => by rw [loss_mid q19 q22, mid_oth ⟨q1, q2, q3, q5⟩]
  have om : ∀ t, t ≠ 1 → t ≠ 2 → t ≠ 3 → t ≠ 5 → midA a c (felled a c) t = a t := fun t q1 q2 q3 q5 => mid_oth ⟨q1, q2, q3, q5⟩
  have sc0 : t0.1 13 = nI (scn a) := by
    rw [e0]
    show μ1.1 13 = nI (a 16 0 0 0)
    rw [← om 16 (by decide) (by decide) (by decide) (by decide)]
    exact s0
  intro N
  induction N with
  | zero =>
    intro k t h1 h2
    omega
  | succ N ih =>
    intro k t hk hN f1 f2 f3 f4 f5
    show wlX10_losesNow_28_body Φ (wlX10_losesNow_28 Φ N) (nI g) (nI k) t
    unfold wlX10_losesNow_28_body wbX10_losesNow_79 wbX10_losesNow_80 wbX10_losesNow_110
    rw [f1, sc0, nI_lit 3, mulI, nI_lit 2, addI, nI_lit 1, addI]
    refine pk_le (scn a) k (fun h1 => ?_) (fun h1 => ?_)
    · have hks : k = scn a := by omega
      subst hks
      refine kk t ⟨?_, ?_, ?_, ?_, ⟨?_, ?_, ?_, ?_, ?_, ?_⟩, ⟨?_, ?_, ?_, ?_⟩, ⟨?_, ?_, ?_⟩⟩
      · have e : M1 (lossA a c) t = M1 (midA a c (felled a c)) μ1 := by
          unfold M1 nA life now wri frm
          rw [loss_mid (t := 0) (by decide) (by decide), loss_mid (t := 1) (by decide) (by decide), loss_mid (t := 2) (by decide) (by decide), loss_mid (t := 3) (by decide) (by decide), loss_mid (t := 4) (by decide) (by decide), f1, f2 1 (by decide), f2 2 (by decide), f2 3 (by decide), f2 4 (by decide), e0]
          rfl
        rw [e]
        exact ⟨g0, g1, g2, g3, g4⟩
      · have e : M2 (lossA a c) t = M2 (midA a c (felled a c)) μ1 := by
          unfold M2 life ends
          rw [loss_mid (t := 1) (by decide) (by decide), loss_mid (t := 5) (by decide) (by decide), f2 5 (by decide), e0]
          rfl
        rw [e]
        exact h2
      · have e : M3 (lossA a c) t = M3 (midA a c (felled a c)) μ1 := by
          unfold M3 now pgl pgs rsl rsp
          rw [loss_mid (t := 2) (by decide) (by decide), loss_mid (t := 6) (by decide) (by decide), loss_mid (t := 7) (by decide) (by decide), loss_mid (t := 8) (by decide) (by decide), loss_mid (t := 9) (by decide) (by decide), f2 6 (by decide), f2 7 (by decide), f2 8 (by decide), f2 9 (by decide), e0]
          rfl
        rw [e]
        exact h3
      · have e : M4 (lossA a c) t = M4 (midA a c (felled a c)) μ1 := by
          unfold M4 lcn lto lby lsm lrl lrp
          rw [loss_mid (t := 10) (by decide) (by decide), loss_mid (t := 11) (by decide) (by decide), loss_mid (t := 12) (by decide) (by decide), loss_mid (t := 13) (by decide) (by decide), loss_mid (t := 14) (by decide) (by decide), loss_mid (t := 15) (by decide) (by decide), f1, f2 10 (by decide), e0]
          rfl
        rw [e]
        exact h4
      · show t.1 13 = nI (lossA a c 16 0 0 0)
        rw [o 16 (by decide) (by decide) (by decide) (by decide) (by decide) (by decide), f1]
        exact sc0
      · intro i hi
        have hi : i < scn a := by
          have e : scn (lossA a c) = scn a := congrFun (congrFun (congrFun (o 16 (by decide) (by decide) (by decide) (by decide) (by decide) (by decide)) 0) 0) 0
          rw [e] at hi
          exact hi
        show _ = nI (lossA a c 17 i 0 0)
        rw [o 17 (by decide) (by decide) (by decide) (by decide) (by decide) (by decide)]
        exact f3 i hi
      · intro i hi
        have hi : i < scn a := by
          have e : scn (lossA a c) = scn a := congrFun (congrFun (congrFun (o 16 (by decide) (by decide) (by decide) (by decide) (by decide) (by decide)) 0) 0) 0
          rw [e] at hi
          exact hi
        show _ = nI (lossA a c 18 i 0 0)
        rw [o 18 (by decide) (by decide) (by decide) (by decide) (by decide) (by decide)]
        exact f4 i hi
      · intro i hi
        have hi : i < scn a := by
          have e : scn (lossA a c) = scn a := congrFun (congrFun (congrFun (o 16 (by decide) (by decide) (by decide) (by decide) (by decide) (by decide)) 0) 0) 0
          rw [e] at hi
          exact hi
        have := f5 i hi
        rw [if_pos hi] at this
        exact this
      · show t.1 15 = nI (lossA a c 20 0 0 0)
        rw [o 20 (by decide) (by decide) (by decide) (by decide) (by decide) (by decide), f1, e0, ← om 20 (by decide) (by decide) (by decide) (by decide)]
        exact s4
      · intro i hi
        have hi : i < rcn (midA a c (felled a c)) := by
          have e : rcn (lossA a c) = rcn (midA a c (felled a c)) := congrFun (congrFun (congrFun (loss_mid (by decide) (by decide)) 0) 0) 0
          rw [e] at hi
          exact hi
        show _ = nI (lossA a c 21 i 0 0)
        rw [loss_mid (by decide) (by decide), f2 12 (by decide), e0]
        exact s5 i hi
      · show t.1 16 = nI (gon (lossA a c))
        rw [f1, e0, loss_gon]
        rfl
      · show t.2 13 0 = nI (lossA a c 23 0 0 0)
        rw [loss_mid (by decide) (by decide), f2 13 (by decide), e0]
        exact r1
      · show t.2 13 1 = nI (lossA a c 24 0 0 0)
        rw [loss_mid (by decide) (by decide), f2 13 (by decide), e0]
        exact r2
      · show t.2 13 2 = nI (lossA a c 25 0 0 0)
        rw [loss_mid (by decide) (by decide), f2 13 (by decide), e0]
        exact r3
      · show t.1 22 = nI (lossA a c 26 0 0 0)
        rw [loss_mid (by decide) (by decide), f1, e0]
        exact u0
      · intro i hi
        have hi : i < tln (midA a c (felled a c)) := by
          have e : tln (lossA a c) = tln (midA a c (felled a c)) := congrFun (congrFun (congrFun (loss_mid (by decide) (by decide)) 0) 0) 0
          rw [e] at hi
          exact hi
        show _ = nI (lossA a c 27 i 0 0)
        rw [loss_mid (by decide) (by decide), f2 15 (by decide), e0]
        exact u1 i hi
      · show t.1 23 = nI (lossA a c 28 0 0 0)
        rw [loss_mid (by decide) (by decide), f1, e0]
        exact u2
    · have e5 := f5 k h1
      rw [if_neg (Nat.lt_irrefl k)] at e5
      have s9 := hs.2.2.2.2.2.2.2.1 k h1
      have enow : t.2 2 (sck a k) = nI (keep a c (sck a k)) := by
        rw [f2 2 (by decide), e0]
        show μ1.2 2 (sck a k) = _
        rw [g2 (sck a k) (by omega), fel_now hb hc s9.1]
      have hkk : keep a c (sck a k) ≤ 23 := Nat.le_trans (keep_le hb hc) (hb.2.1 _ (by omega))
      rw [rd_nI t 11 (by omega), rd_nI t 11 (by omega), rd_nI t 11 (by omega), e5, f3 k h1, f4 k h1, rd_nI t 2 (by omega), enow]
      have nxt : ∀ v, v = sst (lossA a c) k → ∀ t2, t2 = wr t 11 (nI (3 * k + 2)) (nI v) → ∀ y, y = nI k + nI 1 → wlX10_losesNow_28 Φ N (nI g) y t2 := by
        intro v ev t2 et2 y ey
        rw [wr_nI _ _ _ (by omega)] at et2
        rw [ey, addI, et2]
        refine ih (k + 1) _ (by omega) (by omega) f1 (fun b hb => ?_) (fun i hi => ?_) (fun i hi => ?_) (fun i hi => ?_)
        · rw [w2_ne _ _ _ hb]
          exact f2 b hb
        · rw [w2_at, if_neg (by omega)]
          exact f3 i hi
        · rw [w2_at, if_neg (by omega)]
          exact f4 i hi
        · rw [w2_at]
          by_cases e : i = k
          · subst e
            rw [if_pos rfl, if_pos (by omega), ev]
          · rw [if_neg (by omega), f5 i hi]
            by_cases q : i < k
            · rw [if_pos q, if_pos (by omega)]
            · rw [if_neg q, if_neg (by omega)]
      have same : ¬ (sst a k = 0 ∧ keep a c (sck a k) < spg a k) → ((0 : Int32) = 0 → (vp_in (nI (3 * k + 2)) 90 ∧ (vp_in (nI (3 * k + 2)) 90 ∧ ∀ t2 : St, t2 = wr t 11 (nI (3 * k + 2)) (nI (sst a k)) → (∀ y3 : Int32, y3 = nI k + nI 1 → wlX10_losesNow_28 Φ N (nI g) y3 t2)))) := by
        intro q _
        exact ⟨pk_in (3 * k + 2) 90 (by omega), pk_in (3 * k + 2) 90 (by omega), fun t2 et2 y ey => nxt (sst a k) (loss_sst.2 q).symm t2 et2 y ey⟩
      refine ⟨pk_in (3 * k + 2) 90 (by omega), pk_eq (sst a k) 0 (fun q => ⟨pk_in (3 * k + 1) 90 (by omega), pk_in (3 * k) 90 (by omega), pk_in (sck a k) 5 (by omega), pk_le (spg a k) (keep a c (sck a k)) (fun q2 => ?_) (fun q2 => ?_)⟩) (fun q => ?_)⟩
      · exact ⟨same (by omega), fun z => absurd rfl z⟩
      · exact ⟨fun z => absurd z (by decide), fun _ => ⟨pk_in (3 * k + 2) 90 (by omega), fun t2 et2 y ey => nxt 2 (loss_sst.1 ⟨q, q2⟩).symm t2 et2 y ey⟩⟩
      · exact ⟨same (fun z => q z.1), fun z => absurd rfl z⟩
theorem pM_losesNow {a : AS} {μ : St} (h : RepM a μ) (hb : Bd a) (hs : Sm a) (hi : Iv a) {c : Nat} (hc : c < nA a) {Φ : Int32 → St → Prop} (k1 : (∃ d, d < nA a ∧ 60 ≤ life a d) → Φ (-4) μ) (k2 : ¬ (∃ d, d < nA a ∧ 60 ≤ life a d) → ∀ μ', RepM (lossA a c) μ' → Φ (nI (goneOf a c (nA a))) μ') : wpX10_losesNow (nI c) μ Φ := by
  unfold wpX10_losesNow
  refine pM_isTooOld h hb (brB (fun q => ?_) (fun q => k1 q))
  refine pM_lossOf h hb hs hi hc (fun t ht fr t6 e6 => ⟨scn a + 1, ?_⟩)
  have om : ∀ t, t ≠ 1 → t ≠ 2 → t ≠ 3 → t ≠ 5 → midA a c (felled a c) t = a t := fun t q1 q2 q3 q5 => mid_oth ⟨q1, q2, q3, q5⟩
  have g16 : t.1 16 = nI (gon a) := by rw [fr.1]; exact h.2.2.2.2.2.1.1
  rw [g16, addI] at e6
  refine lM_loses28 hb hs hc ht e6 (k2 q) (scn a + 1) 0 t6 (Nat.zero_le _) (by omega) rfl (fun b _ => rfl) (fun i hi => ?_) (fun i hi => ?_) (fun i hi => ?_)
  · rw [e6]
    show t.2 11 _ = _
    rw [fr.2 11 (by decide) (by decide) (by decide) (by decide)]
    exact h.2.2.2.2.1.2.1 i hi
  · rw [e6]
    show t.2 11 _ = _
    rw [fr.2 11 (by decide) (by decide) (by decide) (by decide)]
    exact h.2.2.2.2.1.2.2.1 i hi
  · rw [e6, if_neg (Nat.not_lt_zero i)]
    show t.2 11 _ = _
    rw [fr.2 11 (by decide) (by decide) (by decide) (by decide)]
    exact h.2.2.2.2.1.2.2.2.1 i hi
noncomputable def fellN (a : AS) (c : Nat) : Nat → Nat
  | 0 => 0
  | d + 1 => fellN a c d + @ite Nat (felled a c d) (Classical.propDecidable _) 1 0
noncomputable def lostN (a : AS) (c : Nat) : Nat → Nat
  | 0 => 0
  | k + 1 => lostN a c k + @ite Nat (sst a k = 0 ∧ keep a c (sck a k) < spg a k) (Classical.propDecidable _) 1 0
theorem fellN_s (a : AS) (c d : Nat) : fellN a c (d + 1) = fellN a c d + @ite Nat (felled a c d) (Classical.propDecidable _) 1 0 := rfl
theorem lostN_s (a : AS) (c k : Nat) : lostN a c (k + 1) = lostN a c k + @ite Nat (sst a k = 0 ∧ keep a c (sck a k) < spg a k) (Classical.propDecidable _) 1 0 := rfl
/-- what was put aside -/
def asd (a : AS) (t : St) (i : Nat) : Prop := ∀ d, d < i → t.2 14 d = nI (life a d) ∧ t.2 14 (5 + d) = nI (now a d) ∧ t.2 14 (10 + d) = nI (wri a d)
theorem lM_tries144 {a : AS} {μ : St} (h : RepM a μ) (hb : Bd a) (hs : Sm a) {c g : Nat} (hc : c < nA a) {μ1 : St} (hm : RepM (midA a c (felled a c)) μ1) (hfr : ∀ b, b ≠ 1 → b ≠ 2 → b ≠ 3 → b ≠ 5 → b ≠ 14 → μ1.2 b = μ.2 b) (ha : asd a μ1 (nA a)) {p : Nat} {Φ : Int32 → St → Prop} (kk : ∀ t, RepM a t → t.1 19 = nI (fellN a c (nA a)) → t.1 20 = nI p → Φ (nI g) t) :
    ∀ (N d : Nat) (t : St), d ≤ nA a → nA a - d < N → (∀ j, j ≠ 19 → j ≠ 20 → t.1 j = μ.1 j) → t.1 19 = nI (fellN a c d) → t.1 20 = nI p → (∀ b, b ≠ 1 → b ≠ 2 → b ≠ 3 → t.2 b = μ1.2 b) → (∀ i, i < 5 → t.2 1 i = nI (if i < d then life a i else life (midA a c (felled a c)) i)) → (∀ i, i < 5 → t.2 2 i = nI (if i < d then now a i else now (midA a c (felled a c)) i)) → (∀ i, i < 5 → t.2 3 i = nI (if i < d then wri a i else wri (midA a c (felled a c)) i)) → wlX10_tries_144 Φ N (nI g) (nI d) t := by
  have hn := hb.1
  have lf : ∀ i, i < 5 → life (midA a c (felled a c)) i ≤ 100 := (mid_Bl hb hs hc).2.2.1
  intro N
  induction N with
  | zero =>
    intro d t h1 h2
    omega
  | succ N ih =>
    intro d t hd hN f1 f19 f20 f2 f3 f4 f5
    show wlX10_tries_144_body Φ (wlX10_tries_144 Φ N) (nI g) (nI d) t
    unfold wlX10_tries_144_body wbX10_tries_177
    rw [f1 0 (by decide) (by decide), h.1.1]
    refine pk_le (nA a) d (fun h1 => ?_) (fun h1 => ?_)
    · have e : d = nA a := by omega
      subst e
      refine kk t ?_ f19 f20
      obtain ⟨⟨g0, g1, g2, g3, g4⟩, h2, ⟨p1, p2, p3, p4⟩, ⟨q0, q1, q2, q3, q4, q5⟩, ⟨s0, s1, s2, s3, s4, s5⟩, ⟨r0, r1, r2, r3⟩, ⟨u0, u1, u2⟩⟩ := h
      have nf : ∀ i, nA a ≤ i → ¬ felled a c i := fun i q z => by have := z.1; omega
      have fb : ∀ b, b ≠ 1 → b ≠ 2 → b ≠ 3 → b ≠ 5 → b ≠ 14 → t.2 b = μ.2 b := fun b b1 b2 b3 b5 b14 => (f2 b b1 b2 b3).trans (hfr b b1 b2 b3 b5 b14)
      refine ⟨⟨?_, ?_, ?_, ?_, ?_⟩, ?_, ⟨?_, ?_, ?_, ?_⟩, ⟨?_, ?_, ?_, ?_, ?_, ?_⟩, ⟨?_, ?_, ?_, ?_, ?_, ?_⟩, ⟨?_, ?_, ?_, ?_⟩, ⟨?_, ?_, ?_⟩⟩
      · rw [f1 0 (by decide) (by decide)]; exact g0
      · intro i hi
        rw [f3 i hi]
        by_cases q : i < nA a
        · rw [if_pos q]
        · rw [if_neg q, mid_life.2 (nf i (by omega))]
      · intro i hi
        rw [f4 i hi]
        by_cases q : i < nA a
        · rw [if_pos q]
        · rw [if_neg q, mid_now.2 (nf i (by omega))]
      · intro i hi
        rw [f5 i hi]
        by_cases q : i < nA a
        · rw [if_pos q]
        · rw [if_neg q, mid_wri.2 (nf i (by omega))]
      · rw [fb 4 (by decide) (by decide) (by decide) (by decide) (by decide)]; exact g4
      · intro i hi l hl
        rw [f2 5 (by decide) (by decide) (by decide)]
        have hl2 : l < life (midA a c (felled a c)) i := by
          by_cases q : felled a c i
          · rw [mid_life.1 q]
            omega
          · rw [mid_life.2 q]
            exact hl
        rw [hm.2.1 i hi l hl2, mid_ends.2 (fun q => by have := q.2; omega)]
      · rw [fb 6 (by decide) (by decide) (by decide) (by decide) (by decide)]; exact p1
      · rw [fb 7 (by decide) (by decide) (by decide) (by decide) (by decide)]; exact p2
      · rw [fb 8 (by decide) (by decide) (by decide) (by decide) (by decide)]; exact p3
      · rw [fb 9 (by decide) (by decide) (by decide) (by decide) (by decide)]; exact p4
      · rw [f1 11 (by decide) (by decide)]; exact q0
      · rw [fb 10 (by decide) (by decide) (by decide) (by decide) (by decide)]; exact q1
      · rw [fb 10 (by decide) (by decide) (by decide) (by decide) (by decide)]; exact q2
      · rw [fb 10 (by decide) (by decide) (by decide) (by decide) (by decide)]; exact q3
      · rw [fb 10 (by decide) (by decide) (by decide) (by decide) (by decide)]; exact q4
      · rw [fb 10 (by decide) (by decide) (by decide) (by decide) (by decide)]; exact q5
      · rw [f1 13 (by decide) (by decide)]; exact s0
      · rw [fb 11 (by decide) (by decide) (by decide) (by decide) (by decide)]; exact s1
      · rw [fb 11 (by decide) (by decide) (by decide) (by decide) (by decide)]; exact s2
      · rw [fb 11 (by decide) (by decide) (by decide) (by decide) (by decide)]; exact s3
      · rw [f1 15 (by decide) (by decide)]; exact s4
      · rw [fb 12 (by decide) (by decide) (by decide) (by decide) (by decide)]; exact s5
      · rw [f1 16 (by decide) (by decide)]; exact r0
      · rw [fb 13 (by decide) (by decide) (by decide) (by decide) (by decide)]; exact r1
      · rw [fb 13 (by decide) (by decide) (by decide) (by decide) (by decide)]; exact r2
      · rw [fb 13 (by decide) (by decide) (by decide) (by decide) (by decide)]; exact r3
      · rw [f1 22 (by decide) (by decide)]; exact u0
      · rw [fb 15 (by decide) (by decide) (by decide) (by decide) (by decide)]; exact u1
      · rw [f1 23 (by decide) (by decide)]; exact u2
    · have hd5 : d < 5 := by omega
      have a1 : t.2 14 d = nI (life a d) := by rw [f2 14 (by decide) (by decide) (by decide)]; exact (ha d h1).1
      have a2 : t.2 14 (5 + d) = nI (now a d) := by rw [f2 14 (by decide) (by decide) (by decide)]; exact (ha d h1).2.1
      have a3 : t.2 14 (10 + d) = nI (wri a d) := by rw [f2 14 (by decide) (by decide) (by decide)]; exact (ha d h1).2.2
      have l1 := f3 d hd5
      rw [if_neg (Nat.lt_irrefl d)] at l1
      have hl1 := lf d hd5
      have hl2 := hb.2.2.2.2.1 d hd5
      have nxt : ∀ v : Nat, fellN a c d + v = fellN a c (d + 1) → (∀ t1 : St, t1 = setI t 19 (t.1 19 + nI v) → (vp_in (nI d) 15 ∧ (vp_in (nI d) 5 ∧ ∀ t4 : St, t4 = wr t1 1 (nI d) (rd t1 14 (nI d)) → (vp_in ((5 : Int32) + nI d) 15 ∧ (vp_in (nI d) 5 ∧ ∀ t7 : St, t7 = wr t4 2 (nI d) (rd t4 14 ((5 : Int32) + nI d)) → (vp_in ((10 : Int32) + nI d) 15 ∧ (vp_in (nI d) 5 ∧ ∀ t10 : St, t10 = wr t7 3 (nI d) (rd t7 14 ((10 : Int32) + nI d)) → (∀ y11 : Int32, y11 = nI d + (1 : Int32) → wlX10_tries_144 Φ N (nI g) y11 t10)))))))) := by
        intro v hv t1 e1
        rw [nI_lit 5, nI_lit 10, addI, addI]
        refine ⟨pk_in d 15 (by omega), pk_in d 5 hd5, fun t4 e4 => ⟨pk_in (5 + d) 15 (by omega), pk_in d 5 hd5, fun t7 e7 => ⟨pk_in (10 + d) 15 (by omega), pk_in d 5 hd5, fun t10 e10 y ey => ?_⟩⟩⟩
        have b1 : t1.2 = t.2 := by rw [e1]; rfl
        rw [rd_nI _ _ (by omega), wr_nI _ _ _ (by omega), b1, a1] at e4
        have b4 : t4.2 14 = t.2 14 := by rw [e4, w2_ne _ _ _ (by decide), b1]
        rw [rd_nI _ _ (by omega), wr_nI _ _ _ (by omega), b4, a2] at e7
        have b7 : t7.2 14 = t.2 14 := by rw [e7, w2_ne _ _ _ (by decide), b4]
        rw [rd_nI _ _ (by omega), wr_nI _ _ _ (by omega), b7, a3] at e10
        rw [ey, nI_1]
        have c1 : t10.1 = t1.1 := by rw [e10, e7, e4]; rfl
        refine ih (d + 1) t10 (by omega) (by omega) (fun j j1 j2 => ?_) ?_ ?_ (fun b b1' b2 b3 => ?_) (fun i hi => ?_) (fun i hi => ?_) (fun i hi => ?_)
        · rw [c1, e1, setI_1, if_neg j1]
          exact f1 j j1 j2
        · rw [c1, e1, setI_1, if_pos rfl, f19, addI, hv]
        · rw [c1, e1, setI_1, if_neg (by decide)]
          exact f20
        · rw [e10, w2_ne _ _ _ b3, e7, w2_ne _ _ _ b2, e4, w2_ne _ _ _ b1', b1]
          exact f2 b b1' b2 b3
        · rw [e10, w2_ne _ _ _ (by decide), e7, w2_ne _ _ _ (by decide), e4, w2_at, b1]
          by_cases q : i = d
          · subst q
            rw [if_pos rfl, if_pos (by omega)]
          · rw [if_neg q, f3 i hi]
            by_cases q2 : i < d
            · rw [if_pos q2, if_pos (by omega)]
            · rw [if_neg q2, if_neg (by omega)]
        · rw [e10, w2_ne _ _ _ (by decide), e7, w2_at, e4, w2_ne _ _ _ (by decide), b1]
          by_cases q : i = d
          · subst q
            rw [if_pos rfl, if_pos (by omega)]
          · rw [if_neg q, f4 i hi]
            by_cases q2 : i < d
            · rw [if_pos q2, if_pos (by omega)]
            · rw [if_neg q2, if_neg (by omega)]
        · rw [e10, w2_at, e7, w2_ne _ _ _ (by decide), e4, w2_ne _ _ _ (by decide), b1]
          by_cases q : i = d
          · subst q
            rw [if_pos rfl, if_pos (by omega)]
          · rw [if_neg q, f5 i hi]
            by_cases q2 : i < d
            · rw [if_pos q2, if_pos (by omega)]
            · rw [if_neg q2, if_neg (by omega)]
      refine ⟨pk_in d 5 hd5, pk_in d 15 (by omega), ?_⟩
      rw [rd_nI t 1 (by omega), rd_nI t 14 (by omega), l1, a1]
      refine pk_le (life (midA a c (felled a c)) d) (life a d) (fun q => ?_) (fun q => ?_)
      · refine nxt 0 ?_
        rw [fellN_s, if_neg]
        intro z
        rw [mid_life.1 z] at q
        omega
      · refine nxt 1 ?_
        rw [fellN_s, if_pos]
        by_cases z : felled a c d
        · exact z
        · rw [mid_life.2 z] at q
          omega
