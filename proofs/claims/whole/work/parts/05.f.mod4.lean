theorem lM_sends {a : AS} {μ : St} (h : RepM a μ) (hb : Bd a) {c d : Nat} (hc : c < 5) (hlt : lcn a < 40) {Φ : Int32 → St → Prop} (kk : ∀ μ', RepM (sendA a c d) μ' → Φ (nI (lcn a + 1)) μ') :
    ∀ (N i : Nat) (t : St), i ≤ 5 → 5 - i < N → t.1 = μ.1 → (∀ b, b ≠ 10 → t.2 b = μ.2 b) → (∀ j, j < 13 * lcn a → t.2 10 j = μ.2 10 j) → t.2 10 (13 * lcn a) = nI d → t.2 10 (13 * lcn a + 1) = nI c → t.2 10 (13 * lcn a + 2) = nI (pgs a c (now a c)) → (∀ e, e < i → t.2 10 (13 * lcn a + 3 + e) = nI (rsl a c (now a c) e)) → (∀ e, e < i → t.2 10 (13 * lcn a + 8 + e) = nI (rsp a c (now a c) e)) → wlX10_sends_62 Φ N (nI c) (nI (13 * lcn a)) (nI i) t := by
  have h23 := hb.2.1 c hc
  intro N
  induction N with
  | zero =>
    intro i t h1 h2
    omega
  | succ N ih =>
    intro i t hi hN e1 e2 e3 e4 e5 e6 e7 e8
    show wlX10_sends_62_body Φ (wlX10_sends_62 Φ N) (nI c) (nI (13 * lcn a)) (nI i) t
    unfold wlX10_sends_62_body wpX10_restOf wpX10_pageOf
    dsimp only
    refine pk_le 5 i (fun h1 => ?_) (fun h1 => ?_)
    · have hi5 : i = 5 := by omega
      subst hi5
      intro t2 ht2
      rw [e1, h.2.2.2.1.1, nI_1] at ht2
      have e11 : t2.1 11 = nI (lcn a + 1) := by rw [ht2]; rfl
      rw [e11]
      have f1 : ∀ b, b ≠ 10 → t2.2 b = μ.2 b := fun b hb => by rw [ht2]; exact e2 b hb
      have f2 : t2.2 10 = t.2 10 := by rw [ht2]; rfl
      have f3 : ∀ j, j ≠ 11 → t2.1 j = μ.1 j := fun j hj => by rw [ht2, setI_1, if_neg hj, e1]
      obtain ⟨⟨g0, g1, g2, g3, g4⟩, h2, ⟨p1, p2, p3, p4⟩, ⟨q0, q1, q2, q3, q4, q5⟩, ⟨s0, s1, s2, s3, s4, s5⟩, ⟨r0, r1, r2, r3⟩, ⟨u0, u1, u2⟩⟩ := h
      refine kk t2 ⟨⟨?_, ?_, ?_, ?_, ?_⟩, ?_, ⟨?_, ?_, ?_, ?_⟩, ⟨e11, ?_, ?_, ?_, ?_, ?_⟩, ⟨?_, ?_, ?_, ?_, ?_, ?_⟩, ⟨?_, ?_, ?_, ?_⟩, ⟨?_, ?_, ?_⟩⟩
      · rw [f3 0 (by decide)]; exact g0
      · rw [f1 1 (by decide)]; exact g1
      · rw [f1 2 (by decide)]; exact g2
      · rw [f1 3 (by decide)]; exact g3
      · rw [f1 4 (by decide)]; exact g4
      · unfold M2; rw [f1 5 (by decide)]; exact h2
      · rw [f1 6 (by decide)]; exact p1
      · rw [f1 7 (by decide)]; exact p2
      · rw [f1 8 (by decide)]; exact p3
      · rw [f1 9 (by decide)]; exact p4
      · intro m hm
        have hm : m < lcn a + 1 := hm
        show t2.2 10 (13 * m) = nI (if m = lcn a then d else a 11 m 0 0)
        rw [f2]
        by_cases e : m = lcn a
        · rw [if_pos e, e]; exact e4
        · rw [if_neg e, e3 _ (by omega)]; exact q1 m (by omega)
      · intro m hm
        have hm : m < lcn a + 1 := hm
        show t2.2 10 (13 * m + 1) = nI (if m = lcn a then c else a 12 m 0 0)
        rw [f2]
        by_cases e : m = lcn a
        · rw [if_pos e, e]; exact e5
        · rw [if_neg e, e3 _ (by omega)]; exact q2 m (by omega)
      · intro m hm
        have hm : m < lcn a + 1 := hm
        show t2.2 10 (13 * m + 2) = nI (if m = lcn a then pgs a c (now a c) else a 13 m 0 0)
        rw [f2]
        by_cases e : m = lcn a
        · rw [if_pos e, e]; exact e6
        · rw [if_neg e, e3 _ (by omega)]; exact q3 m (by omega)
      · intro m hm e he
        have hm : m < lcn a + 1 := hm
        show t2.2 10 (13 * m + 3 + e) = nI (if m = lcn a then rsl a c (now a c) e else a 14 m e 0)
        rw [f2]
        by_cases e9 : m = lcn a
        · rw [if_pos e9, e9]; exact e7 e he
        · rw [if_neg e9, e3 _ (by omega)]; exact q4 m (by omega) e he
      · intro m hm e he
        have hm : m < lcn a + 1 := hm
        show t2.2 10 (13 * m + 8 + e) = nI (if m = lcn a then rsp a c (now a c) e else a 15 m e 0)
        rw [f2]
        by_cases e9 : m = lcn a
        · rw [if_pos e9, e9]; exact e8 e he
        · rw [if_neg e9, e3 _ (by omega)]; exact q5 m (by omega) e he
      · rw [f3 13 (by decide)]; exact s0
      · rw [f1 11 (by decide)]; exact s1
      · rw [f1 11 (by decide)]; exact s2
      · rw [f1 11 (by decide)]; exact s3
      · rw [f3 15 (by decide)]; exact s4
      · rw [f1 12 (by decide)]; exact s5
      · rw [f3 16 (by decide)]; exact r0
      · rw [f1 13 (by decide)]; exact r1
      · rw [f1 13 (by decide)]; exact r2
      · rw [f1 13 (by decide)]; exact r3
      · rw [f3 22 (by decide)]; exact u0
      · rw [f1 15 (by decide)]; exact u1
      · rw [f3 23 (by decide)]; exact u2
    · have el : t.2 2 c = nI (now a c) := by rw [e2 2 (by decide)]; exact h.1.2.2.1 c hc
      have e8r := h.2.2.1.2.2.1 c hc (now a c) (Nat.le_refl _) i (by omega)
      have e9r := h.2.2.1.2.2.2 c hc (now a c) (Nat.le_refl _) i (by omega)
      rw [rd_nI _ _ (by omega), el, nI_lit 24, mulI, addI, nI_lit 5, mulI, addI, nI_lit 3, addI, addI, nI_lit 8, addI, addI]
      refine ⟨pk_in c 5 hc, pk_in (5 * (24 * c + now a c) + i) 600 (by omega), pk_in (13 * lcn a + 3 + i) 520 (by omega), fun t8 et8 => ⟨pk_in c 5 hc, ?_⟩⟩
      rw [rd_nI _ _ (by omega), wr_nI _ _ _ (by omega), e2 8 (by decide), e8r] at et8
      have el2 : t8.2 2 c = nI (now a c) := by rw [et8]; exact el
      rw [rd_nI _ _ (by omega), el2, addI, mulI, addI]
      refine ⟨pk_in (5 * (24 * c + now a c) + i) 600 (by omega), pk_in (13 * lcn a + 8 + i) 520 (by omega), fun t14 et14 y ey => ?_⟩
      have el3 : t8.2 9 = μ.2 9 := by rw [et8, w2_ne _ _ _ (by decide)]; exact e2 9 (by decide)
      rw [rd_nI _ _ (by omega), wr_nI _ _ _ (by omega), el3, e9r, et8] at et14
      rw [ey, nI_1, et14]
      refine ih (i + 1) _ (by omega) (by omega) e1 (fun b hb => ?_) (fun j hj => ?_) ?_ ?_ ?_ (fun e he => ?_) (fun e he => ?_)
      · rw [w2_ne _ _ _ hb, w2_ne _ _ _ hb]; exact e2 b hb
      · rw [w2_at, if_neg (by omega), w2_at, if_neg (by omega)]; exact e3 j hj
      · rw [w2_at, if_neg (by omega), w2_at, if_neg (by omega)]; exact e4
      · rw [w2_at, if_neg (by omega), w2_at, if_neg (by omega)]; exact e5
      · rw [w2_at, if_neg (by omega), w2_at, if_neg (by omega)]; exact e6
      · rw [w2_at, if_neg (by omega), w2_at]
        by_cases q : e = i
        · rw [if_pos (by omega), q]
        · rw [if_neg (by omega)]; exact e7 e (by omega)
      · rw [w2_at]
        by_cases q : e = i
        · rw [if_pos (by omega), q]
        · rw [if_neg (by omega), w2_at, if_neg (by omega)]; exact e8 e (by omega)
theorem pM_sends {a : AS} {μ : St} (h : RepM a μ) (hb : Bd a) {c d : Nat} (hc : c < 5) {Φ : Int32 → St → Prop} (k1 : lcn a = 40 → Φ (-4) μ) (k2 : lcn a < 40 → ∀ μ', RepM (sendA a c d) μ' → Φ (nI (lcn a + 1)) μ') : wpX10_sends (nI c) (nI d) μ Φ := by
  unfold wpX10_sends wpX10_pageOf
  have hlc := hb.2.2.2.2.2.1
  have h23 := hb.2.1 c hc
  rw [h.2.2.2.1.1, nI_lit 13, mulI]
  refine pk_eq (lcn a) 40 (fun h1 => k1 h1) (fun h1 => ?_)
  intro y ey
  rw [ey, nI_lit 1, addI, nI_lit 2, addI, nI_lit 24, mulI]
  refine ⟨pk_in (13 * lcn a) 520 (by omega), fun t4 e4 => ⟨pk_in (13 * lcn a + 1) 520 (by omega), fun t6 e6 => ⟨pk_in c 5 hc, ?_⟩⟩⟩
  rw [wr_nI _ _ _ (by omega)] at e4 e6
  have el : t6.2 2 c = nI (now a c) := by rw [e6, e4]; exact h.1.2.2.1 c hc
  have es : t6.2 7 (24 * c + now a c) = nI (pgs a c (now a c)) := by rw [e6, e4]; exact h.2.2.1.2.1 c hc _ (Nat.le_refl _)
  rw [rd_nI _ _ (by omega), el, addI]
  refine ⟨pk_in (24 * c + now a c) 120 (by omega), pk_in (13 * lcn a + 2) 520 (by omega), fun t12 e12 => ⟨6, ?_⟩⟩
  rw [rd_nI _ _ (by omega), wr_nI _ _ _ (by omega), es] at e12
  subst e12
  subst e6
  subst e4
  refine lM_sends h hb hc (by omega) (k2 (by omega)) 6 0 _ (by decide) (by decide) rfl (fun b hb => ?_) (fun j hj => ?_) ?_ ?_ ?_ (fun e he => absurd he (Nat.not_lt_zero e)) (fun e he => absurd he (Nat.not_lt_zero e))
  · rw [w2_ne _ _ _ hb, w2_ne _ _ _ hb, w2_ne _ _ _ hb]
  · rw [w2_at, if_neg (by omega), w2_at, if_neg (by omega), w2_at, if_neg (by omega)]
  · rw [w2_at, if_neg (by omega), w2_at, if_neg (by omega), w2_at, if_pos rfl]
  · rw [w2_at, if_neg (by omega), w2_at, if_pos rfl]
  · rw [w2_at, if_pos rfl]
theorem pM_becomesWritten {a : AS} {μ : St} (h : RepM a μ) (hb : Bd a) {c m : Nat} (hc : c < 5) (hm : m < 1000) {Φ : Int32 → St → Prop} (kk : ∀ μ', RepM (writeA a c m) μ' → Φ (nI (wri (writeA a c m) c)) μ') : wpX10_becomesWritten (nI c) (nI m) μ Φ := by
  unfold wpX10_becomesWritten wbX10_becomesWritten_34
  have h23 := hb.2.1 c hc
  have hw := hb.2.2.1 c hc
  have e1 := h.1.2.2.1 c hc
  have e2 := h.1.2.2.2.1 c hc
  refine ⟨pk_in c 5 hc, fun y ey => ⟨pk_in c 5 hc, ?_⟩⟩
  rw [rd_nI _ _ (by omega), e2, addI] at ey
  rw [ey, rd_nI _ _ (by omega), e1]
  have fin : ∀ v, v = (if wri a c + m < now a c then wri a c + m else now a c) → RepM (writeA a c m) (w2 μ 3 c (nI v)) := by
    intro v ev
    obtain ⟨⟨g0, g1, g2, g3, g4⟩, h2, h3, h4, h5, h6, h7⟩ := h
    refine ⟨⟨g0, g1, g2, ?_, g4⟩, h2, h3, h4, h5, h6, h7⟩
    intro i hi
    show (w2 μ 3 c (nI v)).2 3 i = nI (if i = c then (if wri a c + m < now a c then wri a c + m else now a c) else a 3 i 0 0)
    rw [w2_at, ← ev]
    by_cases e : i = c
    · rw [if_pos e, if_pos e]
    · rw [if_neg e, if_neg e]
      exact g3 i hi
  have ew : wri (writeA a c m) c = (if wri a c + m < now a c then wri a c + m else now a c) := by
    show (if c = c then _ else _) = _
    rw [if_pos rfl]
  refine pk_le (now a c) (wri a c + m) (fun h1 => ?_) (fun h1 => ?_)
  · refine ⟨pk_in c 5 hc, pk_in c 5 hc, fun t et => ⟨pk_in c 5 hc, ?_⟩⟩
    rw [wr_nI _ _ _ (by omega)] at et
    have f := fin (now a c) (by rw [if_neg (by omega)])
    have e9 : t.2 3 c = nI (wri (writeA a c m) c) := by
      rw [et, w2_at, if_pos rfl, ew, if_neg (by omega)]
    rw [rd_nI _ _ (by omega), e9, et]
    exact kk _ f
  · refine ⟨pk_in c 5 hc, fun t et => ⟨pk_in c 5 hc, ?_⟩⟩
    rw [wr_nI _ _ _ (by omega)] at et
    have f := fin (wri a c + m) (by rw [if_pos (by omega)])
    have e9 : t.2 3 c = nI (wri (writeA a c m) c) := by
      rw [et, w2_at, if_pos rfl, ew, if_pos (by omega)]
    rw [rd_nI _ _ (by omega), e9, et]
    exact kk _ f
theorem comeB_8 (a : AS) (d m b i j e : Nat) : (comeB a d m b) 8 i j e = @ite Nat (i = d ∧ j = now a d + 1 ∧ e < b ∧ e ≠ d ∧ later (lrl a m e) (lrp a m e) (rsl a d (now a d) e) (rsp a d (now a d) e)) (Classical.propDecidable _) (lrl a m e) ((addA a d (lsm a m)) 8 i j e) := rfl
theorem comeB_9 (a : AS) (d m b i j e : Nat) : (comeB a d m b) 9 i j e = @ite Nat (i = d ∧ j = now a d + 1 ∧ e < b ∧ e ≠ d ∧ later (lrl a m e) (lrp a m e) (rsl a d (now a d) e) (rsp a d (now a d) e)) (Classical.propDecidable _) (lrp a m e) ((addA a d (lsm a m)) 9 i j e) := rfl
theorem comeB_0 (a : AS) (d m : Nat) : comeB a d m 0 = addA a d (lsm a m) := by
  funext t i j e
  by_cases h9 : t = 9
  · subst h9
    rw [comeB_9, if_neg (by rintro ⟨-, -, h, -⟩; omega)]
  · by_cases h8 : t = 8
    · subst h8
      rw [comeB_8, if_neg (by rintro ⟨-, -, h, -⟩; omega)]
    · show (if t = 9 then _ else (if t = 8 then _ else (addA a d (lsm a m)) t)) i j e = _
      rw [if_neg h9, if_neg h8]
theorem comeB_skip {a : AS} {d m b : Nat} (h : b = d ∨ ¬ later (lrl a m b) (lrp a m b) (rsl a d (now a d) b) (rsp a d (now a d) b)) : comeB a d m (b + 1) = comeB a d m b := by
  have key : ∀ i j e, (i = d ∧ j = now a d + 1 ∧ e < b + 1 ∧ e ≠ d ∧ later (lrl a m e) (lrp a m e) (rsl a d (now a d) e) (rsp a d (now a d) e)) ↔ (i = d ∧ j = now a d + 1 ∧ e < b ∧ e ≠ d ∧ later (lrl a m e) (lrp a m e) (rsl a d (now a d) e) (rsp a d (now a d) e)) := by
    intro i j e
    constructor
    · rintro ⟨h1, h2, h3, h4, h5⟩
      refine ⟨h1, h2, ?_, h4, h5⟩
      by_cases q : e = b
      · subst q
        rcases h with h | h
        · exact absurd h h4
        · exact absurd h5 h
      · omega
    · rintro ⟨h1, h2, h3, h4, h5⟩
      exact ⟨h1, h2, by omega, h4, h5⟩
  funext t i j e
  by_cases h9 : t = 9
  · subst h9
    rw [comeB_9, comeB_9]
    by_cases q : (i = d ∧ j = now a d + 1 ∧ e < b ∧ e ≠ d ∧ later (lrl a m e) (lrp a m e) (rsl a d (now a d) e) (rsp a d (now a d) e))
    · rw [if_pos q, if_pos ((key i j e).mpr q)]
    · rw [if_neg q, if_neg (fun z => q ((key i j e).mp z))]
  · by_cases h8 : t = 8
    · subst h8
      rw [comeB_8, comeB_8]
      by_cases q : (i = d ∧ j = now a d + 1 ∧ e < b ∧ e ≠ d ∧ later (lrl a m e) (lrp a m e) (rsl a d (now a d) e) (rsp a d (now a d) e))
      · rw [if_pos q, if_pos ((key i j e).mpr q)]
      · rw [if_neg q, if_neg (fun z => q ((key i j e).mp z))]
    · show (if t = 9 then _ else (if t = 8 then _ else (addA a d (lsm a m)) t)) i j e = (if t = 9 then _ else (if t = 8 then _ else (addA a d (lsm a m)) t)) i j e
      rw [if_neg h9, if_neg h8, if_neg h9, if_neg h8]
theorem comeB_new {a : AS} {d m b : Nat} (h1 : b ≠ d) (h2 : later (lrl a m b) (lrp a m b) (rsl a d (now a d) b) (rsp a d (now a d) b)) (i j e : Nat) : (comeB a d m (b + 1)) 8 i j e = (if i = d ∧ j = now a d + 1 ∧ e = b then lrl a m b else (comeB a d m b) 8 i j e) ∧ (comeB a d m (b + 1)) 9 i j e = (if i = d ∧ j = now a d + 1 ∧ e = b then lrp a m b else (comeB a d m b) 9 i j e) := by
  rw [comeB_8, comeB_9, comeB_8, comeB_9]
  by_cases q : i = d ∧ j = now a d + 1 ∧ e = b
  · obtain ⟨q1, q2, q3⟩ := q
    subst q3
    rw [if_pos (c := i = d ∧ j = now a d + 1 ∧ e = e) ⟨q1, q2, rfl⟩, if_pos (c := i = d ∧ j = now a d + 1 ∧ e = e) ⟨q1, q2, rfl⟩, if_pos ⟨q1, q2, by omega, h1, h2⟩, if_pos ⟨q1, q2, by omega, h1, h2⟩]
    exact ⟨rfl, rfl⟩
  · rw [if_neg q, if_neg q]
    by_cases z : (i = d ∧ j = now a d + 1 ∧ e < b ∧ e ≠ d ∧ later (lrl a m e) (lrp a m e) (rsl a d (now a d) e) (rsp a d (now a d) e))
    · rw [if_pos z, if_pos z, if_pos ⟨z.1, z.2.1, by omega, z.2.2.2⟩, if_pos ⟨z.1, z.2.1, by omega, z.2.2.2⟩]
      exact ⟨rfl, rfl⟩
    · have z2 : ¬ (i = d ∧ j = now a d + 1 ∧ e < b + 1 ∧ e ≠ d ∧ later (lrl a m e) (lrp a m e) (rsl a d (now a d) e) (rsp a d (now a d) e)) := by
        rintro ⟨a1, a2, a3, a4⟩
        by_cases q3 : e = b
        · exact q ⟨a1, a2, q3⟩
        · exact z ⟨a1, a2, by omega, a4⟩
      rw [if_neg z, if_neg z, if_neg z2, if_neg z2]
      exact ⟨rfl, rfl⟩
