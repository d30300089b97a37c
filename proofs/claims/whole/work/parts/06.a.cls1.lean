-- THE CLASS: rows, clerks
theorem cLen_lt (k : Nat) : cLen k < 1000 := by
  unfold cLen
  repeat' split
  all_goals decide
theorem pC_at {j i : Nat} (hi : i < cLen j) {σ : St} {Φ : Int32 → St → Prop} (kk : Φ (σ.2 j i) σ) : wpX9_at j (nI i) σ Φ := by
  unfold wpX9_at
  have hl := cLen_lt j
  refine ⟨fun z => absurd z (nI_pos (by omega)), fun _ => pk_le (cLen j) i (fun z => absurd z (by omega)) (fun _ => ⟨pk_in i (cLen j) hi, ?_⟩)⟩
  rw [rd_nI _ _ (by omega)]
  exact kk
theorem pC_put {j i : Nat} (hi : i < cLen j) {σ : St} {v : Int32} {Φ : St → Prop} (kk : Φ (w2 σ j i v)) : wpX9_put j (nI i) v σ Φ := by
  unfold wpX9_put
  have hl := cLen_lt j
  refine ⟨fun z => absurd z (nI_pos (by omega)), fun _ => pk_le (cLen j) i (fun z => absurd z (by omega)) (fun _ => ⟨pk_in i (cLen j) hi, fun t4 e4 => ?_⟩)⟩
  rw [e4, wr_nI _ _ _ (by omega)]
  exact kk
theorem pC_clerk {c : Nat} (hc : c < 5) {σ : St} {Φ : Nat → St → Prop} (kk : Φ (5 + c) σ) : wpX2_clerk (nI c) σ Φ := by
  unfold wpX2_clerk wbX2_clerk_22
  refine ⟨fun z => absurd z (nI_pos (by omega)), fun _ => pk_le 5 c (fun z => absurd z (by omega)) (fun _ => ⟨pk_in c 5 hc, ?_⟩)⟩
  rw [nI_clamp (by omega)]
  exact kk
theorem pC_within {x lo hi : Int32} {σ : St} {Φ : Int32 → St → Prop} (h : Φ (b01 (lo ≤ x ∧ x ≤ hi)) σ) : wpX9_within x lo hi σ Φ := by
  unfold wpX9_within
  refine ⟨fun h1 => ?_, fun h1 => ⟨fun h2 => ?_, fun h2 => ?_⟩⟩
  · rw [b01_f (fun q => by
      have a := Int32.lt_iff_toInt_lt.mp h1
      have b := Int32.le_iff_toInt_le.mp q.1
      omega)] at h
    exact h
  · rw [b01_f (fun q => by
      have a := Int32.lt_iff_toInt_lt.mp h2
      have b := Int32.le_iff_toInt_le.mp q.2
      omega)] at h
    exact h
  · rw [b01_t ⟨by
      have a : ¬ x.toInt < lo.toInt := fun q => h1 (Int32.lt_iff_toInt_lt.mpr q)
      exact Int32.le_iff_toInt_le.mpr (by omega), by
      have a : ¬ hi.toInt < x.toInt := fun q => h2 (Int32.lt_iff_toInt_lt.mpr q)
      exact Int32.le_iff_toInt_le.mpr (by omega)⟩] at h
    exact h
theorem pC_hasClerk {a : AS} {σ : St} (h : RepC a σ) (hb : Bd a) {x : Int32} {Φ : Int32 → St → Prop} (kk : Φ (b01 (isC a x)) σ) : wpX2_hasClerk x σ Φ := by
  unfold wpX2_hasClerk
  have hn := hb.1
  rw [h.1.1]
  refine ⟨fun z => ?_, fun z => ?_⟩
  · rw [b01_f (fun q => ?_)] at kk
    · exact kk
    · obtain ⟨c, hc, e⟩ := q
      rw [e] at z
      exact nI_pos (by omega) z
  · obtain ⟨n, hn2, rfl⟩ := pos_nI z
    refine pk_le (nA a) n (fun q => ?_) (fun q => ?_)
    · rw [b01_f (fun q2 => ?_)] at kk
      · exact kk
      · obtain ⟨c, hc, e⟩ := q2
        rw [eqI hn2 (by omega)] at e
        omega
    · rw [b01_t ⟨n, q, rfl⟩] at kk
      exact kk
theorem sT_ne {a : AS} {tag u : Nat} {g : Nat → Nat → Nat → Nat} (h : u ≠ tag) : sT a tag g u = a u := if_neg h
/-- no clerk has changed -/
theorem repC_oth {a b : AS} {σ t : St} (h : RepC a σ) (hf : ∀ j, (j = 0 ∨ (160 ≤ j ∧ j < 320)) → t.1 j = σ.1 j) (hr : ∀ j, 16 ≤ j → j < 43 → j ≠ 26 → j ≠ 27 → t.2 j = σ.2 j) (hb : ∀ u, u ≤ 9 → b u = a u) (d4 : C4 b t) (d5 : C5 b t) (d6 : C6 b t) (d7 : C7 b t) (d8 : C8 b t) : RepC b t := by
  obtain ⟨⟨h1, h2, h3, h4, h5⟩, e2, ⟨f1, f2, f3, f4⟩, -⟩ := h
  refine ⟨⟨?_, fun c hc => ?_, fun c hc => ?_, fun c hc => ?_, fun c hc => ?_⟩, fun c hc l hl => ?_, ⟨fun c hc k hk => ?_, fun c hc k hk => ?_, fun c hc k hk d hd => ?_, fun c hc k hk d hd => ?_⟩, d4, d5, d6, d7, d8⟩
  · rw [hf 0 (by decide), h1]
    show nI (a 0 0 0 0) = nI (b 0 0 0 0)
    rw [hb 0 (by decide)]
  · rw [hf _ (by omega), h2 c hc]
    show nI (a 1 c 0 0) = nI (b 1 c 0 0)
    rw [hb 1 (by decide)]
  · rw [hf _ (by omega), h3 c hc]
    show nI (a 2 c 0 0) = nI (b 2 c 0 0)
    rw [hb 2 (by decide)]
  · rw [hf _ (by omega), h4 c hc]
    show nI (a 3 c 0 0) = nI (b 3 c 0 0)
    rw [hb 3 (by decide)]
  · rw [hf _ (by omega), h5 c hc]
    show nI (a 4 c 0 0) = nI (b 4 c 0 0)
    rw [hb 4 (by decide)]
  · unfold life at hl
    rw [hb 1 (by decide)] at hl
    rw [hr _ (by omega) (by omega) (by omega) (by omega), e2 c hc l hl]
    show nI (a 5 c l 0) = nI (b 5 c l 0)
    rw [hb 5 (by decide)]
  · unfold now at hk
    rw [hb 2 (by decide)] at hk
    rw [hr _ (by omega) (by omega) (by omega) (by omega), f1 c hc k hk]
    show nI (a 6 c k 0) = nI (b 6 c k 0)
    rw [hb 6 (by decide)]
  · unfold now at hk
    rw [hb 2 (by decide)] at hk
    rw [hr _ (by omega) (by omega) (by omega) (by omega), f2 c hc k hk]
    show nI (a 7 c k 0) = nI (b 7 c k 0)
    rw [hb 7 (by decide)]
  · unfold now at hk
    rw [hb 2 (by decide)] at hk
    rw [hr _ (by omega) (by omega) (by omega) (by omega), f3 c hc k hk d hd]
    show nI (a 8 c k d) = nI (b 8 c k d)
    rw [hb 8 (by decide)]
  · unfold now at hk
    rw [hb 2 (by decide)] at hk
    rw [hr _ (by omega) (by omega) (by omega) (by omega), f4 c hc k hk d hd]
    show nI (a 9 c k d) = nI (b 9 c k d)
    rw [hb 9 (by decide)]
theorem set_hf {σ : St} {K : Nat} {v : Int32} (hK : 320 ≤ K ∨ (1 ≤ K ∧ K < 160)) (j : Nat) (hj : j = 0 ∨ (160 ≤ j ∧ j < 320)) : (setI σ K v).1 j = σ.1 j := by
  rw [setI_1, if_neg (by omega)]
theorem pC_counted {a : AS} {σ : St} (h : RepC a σ) {r : Int32} {Φ : Int32 → St → Prop} (kk : ∀ t, RepC (cntA r a) t → Φ r t) : wpX7_counted r σ Φ := by
  unfold wpX7_counted wbX7_counted_16 wbX7_counted_32
  obtain ⟨h1, h2, h3, h4, h5, ⟨g1, g2, g3, g4⟩, h7, h8⟩ := id h
  unfold cntA at kk
  refine ⟨fun e t2 e2 => ⟨fun z => absurd (e.symm.trans z) (by decide), fun _ => ⟨fun z => absurd (e.symm.trans z) (by decide), fun _ => ?_⟩⟩, fun e => ⟨fun e3 t2 e2 => ⟨fun z => absurd (e3.symm.trans z) (by decide), fun _ => ?_⟩, fun e3 => ⟨fun e4 t2 e2 => ?_, fun e4 => ?_⟩⟩⟩
  · rw [if_pos e] at kk
    rw [g2, nI_1] at e2
    subst e2
    exact kk _ (repC_oth h (fun j hj => set_hf (by decide) j hj) (fun _ _ _ _ _ => rfl) (fun u hu => sT_ne (by omega)) h4 h5 ⟨g1, rfl, g3, g4⟩ h7 h8)
  · rw [if_neg e, if_pos e3] at kk
    rw [g3, nI_1] at e2
    subst e2
    exact kk _ (repC_oth h (fun j hj => set_hf (by decide) j hj) (fun _ _ _ _ _ => rfl) (fun u hu => sT_ne (by omega)) h4 h5 ⟨g1, g2, rfl, g4⟩ h7 h8)
  · rw [if_neg e, if_neg e3, if_pos e4] at kk
    rw [g4, nI_1] at e2
    subst e2
    exact kk _ (repC_oth h (fun j hj => set_hf (by decide) j hj) (fun _ _ _ _ _ => rfl) (fun u hu => sT_ne (by omega)) h4 h5 ⟨g1, g2, g3, rfl⟩ h7 h8)
  · rw [if_neg e, if_neg e3, if_neg e4] at kk
    exact kk _ h
theorem pC_leftOver {y n : Nat} (hy : y < 2 ^ 62) (hn0 : 0 < n) (hn : n < 2 ^ 31) {σ : St} {Φ : Int32 → St → Prop} (kk : Φ (nI (y % n)) σ) : wpX9_leftOver (lN y) (nI n) σ Φ := by
  unfold wpX9_leftOver
  rw [nI_l hn]
  refine pk_le n 0 (fun z => absurd z (by omega)) (fun _ => ⟨?_, ?_⟩)
  · rw [show (0 : Int64) = lN 0 from rfl, pk_lEQ (by omega) (by decide)]
    omega
  · rw [pk_lRem (by omega) hn0 (by omega), lN_i]
    exact kk
-- rests
theorem rix (r c : Nat) : nI r * (5 : Int32) + nI c = nI (5 * r + c) := by
  rw [nI_lit 5, mulI, addI, Nat.mul_comm]
theorem pC_lifeOf {K r c : Nat} (hi : 5 * r + c < cLen (2 * K - 4)) {σ : St} {Φ : Int32 → St → Prop} (kk : Φ (σ.2 (2 * K - 4) (5 * r + c)) σ) : wpX5_lifeOf K (nI r) (nI c) σ Φ := by
  unfold wpX5_lifeOf
  rw [rix]
  exact pC_at hi kk
theorem pC_pageOf {K r c : Nat} (hi : 5 * r + c < cLen (2 * K - 3)) {σ : St} {Φ : Int32 → St → Prop} (kk : Φ (σ.2 (2 * K - 3) (5 * r + c)) σ) : wpX5_pageOf K (nI r) (nI c) σ Φ := by
  unfold wpX5_pageOf
  rw [rix]
  exact pC_at hi kk
theorem pC_set {K r c : Nat} (hi : 5 * r + c < cLen (2 * K - 4)) (hi2 : 5 * r + c < cLen (2 * K - 3)) {σ : St} {l p : Int32} {Φ : St → Prop} (kk : Φ (w2 (w2 σ (2 * K - 4) (5 * r + c) l) (2 * K - 3) (5 * r + c) p)) : wpX5_set K (nI r) (nI c) l p σ Φ := by
  unfold wpX5_set
  rw [rix]
  exact pC_put hi (pC_put hi2 kk)
/-- m rests of a row are copied -/
def CpR (σ t : St) (la lb sa sb r r2 m : Nat) : Prop := t.1 = σ.1 ∧ (∀ b, b ≠ la → b ≠ lb → t.2 b = σ.2 b) ∧ (∀ i, (i < 5 * r2 ∨ 5 * r2 + m ≤ i) → t.2 la i = σ.2 la i ∧ t.2 lb i = σ.2 lb i) ∧ (∀ e, e < m → t.2 la (5 * r2 + e) = σ.2 sa (5 * r + e) ∧ t.2 lb (5 * r2 + e) = σ.2 sb (5 * r + e))
theorem lC_copyRow {σ : St} {K K2 r r2 : Nat} (hK : 5 ≤ K) (hK2 : 5 ≤ K2) (hr : K = K2 → r ≠ r2) (hl : 5 * r2 + 5 ≤ cLen (2 * K - 4)) (hl2 : 5 * r2 + 5 ≤ cLen (2 * K - 3)) (hs : 5 * r + 5 ≤ cLen (2 * K2 - 4)) (hs2 : 5 * r + 5 ≤ cLen (2 * K2 - 3)) {Φ : St → Prop} (kk : ∀ t, CpR σ t (2 * K - 4) (2 * K - 3) (2 * K2 - 4) (2 * K2 - 3) r r2 5 → Φ t) :
    ∀ (N m : Nat) (t : St), m ≤ 5 → 5 - m < N → CpR σ t (2 * K - 4) (2 * K - 3) (2 * K2 - 4) (2 * K2 - 3) r r2 m → wlX5_copyRow_3 K K2 Φ N (nI r) (nI r2) (nI m) t := by
  intro N
  induction N with
  | zero => intro m t h1 h2; omega
  | succ N ih =>
    intro m t hm hN hC
    show wlX5_copyRow_3_body K K2 Φ (wlX5_copyRow_3 K K2 Φ N) (nI r) (nI r2) (nI m) t
    unfold wlX5_copyRow_3_body
    obtain ⟨c1, c2, c3, c4⟩ := id hC
    refine pk_le 5 m (fun q => ?_) (fun q => ?_)
    · have e : m = 5 := by omega
      subst e
      exact kk t hC
    · refine pC_lifeOf (by omega) (pC_pageOf (by omega) (pC_set (by omega) (by omega) (fun y7 e7 => ?_)))
      rw [e7, nI_1]
      refine ih (m + 1) _ (by omega) (by omega) ?_
      have ra : t.2 (2 * K2 - 4) (5 * r + m) = σ.2 (2 * K2 - 4) (5 * r + m) := by
        by_cases e : K = K2
        · subst e
          have := hr rfl
          exact (c3 (5 * r + m) (by omega)).1
        · rw [c2 _ (by omega) (by omega)]
      have rb : t.2 (2 * K2 - 3) (5 * r + m) = σ.2 (2 * K2 - 3) (5 * r + m) := by
        by_cases e : K = K2
        · subst e
          have := hr rfl
          exact (c3 (5 * r + m) (by omega)).2
        · rw [c2 _ (by omega) (by omega)]
      rw [ra, rb]
      refine ⟨c1, fun b h1 h2 => ?_, fun i hi => ?_, fun e he => ?_⟩
      · rw [w2_ne _ _ _ h2, w2_ne _ _ _ h1]
        exact c2 b h1 h2
      · obtain ⟨d1, d2⟩ := c3 i (by omega)
        constructor
        · rw [w2_ne _ _ _ (by omega), w2_at, if_neg (by omega)]
          exact d1
        · rw [w2_at, if_neg (by omega), w2_ne _ _ _ (by omega)]
          exact d2
      · constructor
        · rw [w2_ne _ _ _ (by omega), w2_at]
          by_cases z : e = m
          · rw [if_pos (by omega), z]
          · rw [if_neg (by omega)]
            exact (c4 e (by omega)).1
        · rw [w2_at]
          by_cases z : e = m
          · rw [if_pos (by omega), z]
          · rw [if_neg (by omega), w2_ne _ _ _ (by omega)]
            exact (c4 e (by omega)).2
theorem pC_copyRow {σ : St} {K K2 r r2 : Nat} (hK : 5 ≤ K) (hK2 : 5 ≤ K2) (hr : K = K2 → r ≠ r2) (hl : 5 * r2 + 5 ≤ cLen (2 * K - 4)) (hl2 : 5 * r2 + 5 ≤ cLen (2 * K - 3)) (hs : 5 * r + 5 ≤ cLen (2 * K2 - 4)) (hs2 : 5 * r + 5 ≤ cLen (2 * K2 - 3)) {Φ : St → Prop} (kk : ∀ t, CpR σ t (2 * K - 4) (2 * K - 3) (2 * K2 - 4) (2 * K2 - 3) r r2 5 → Φ t) : wpX5_copyRow K K2 (nI r) (nI r2) σ Φ := by
  unfold wpX5_copyRow
  exact ⟨6, lC_copyRow hK hK2 hr hl hl2 hs hs2 kk 6 0 σ (by omega) (by omega) ⟨rfl, fun _ _ _ => rfl, fun _ _ => ⟨rfl, rfl⟩, fun e he => absurd he (Nat.not_lt_zero e)⟩⟩
-- lengths of the clerks' rows
theorem ln_a {c : Nat} (hc : c < 5) : cLen (13 + 3 * (5 + c)) = 24 ∧ cLen (14 + 3 * (5 + c)) = 24 ∧ cLen (15 + 3 * (5 + c)) = 60 ∧ cLen (2 * (5 + c + 5) - 4) = 120 ∧ cLen (2 * (5 + c + 5) - 3) = 120 := by
  rcases (show c = 0 ∨ c = 1 ∨ c = 2 ∨ c = 3 ∨ c = 4 by omega) with rfl | rfl | rfl | rfl | rfl <;> decide
theorem pl_a (c : Nat) : 13 + 3 * (5 + c) = 28 + 3 * c ∧ 14 + 3 * (5 + c) = 29 + 3 * c ∧ 15 + 3 * (5 + c) = 30 + 3 * c ∧ 2 * (5 + c + 5) - 4 = 16 + 2 * c ∧ 2 * (5 + c + 5) - 3 = 17 + 2 * c := ⟨by omega, by omega, by omega, by omega, by omega⟩
/-- only clerks have changed -/
theorem repC_clk {a b : AS} {σ t : St} (h : RepC a σ) (hf : ∀ j, (j < 160 ∨ 320 ≤ j) → t.1 j = σ.1 j) (hr : ∀ j, (j = 26 ∨ j = 27 ∨ 43 ≤ j) → t.2 j = σ.2 j) (hb : ∀ u, (u = 0 ∨ 10 ≤ u) → b u = a u) (c1 : ∀ c, c < 5 → t.1 (32 * (5 + c) + 1) = nI (life b c)) (c2 : ∀ c, c < 5 → t.1 (32 * (5 + c) + 2) = nI (now b c)) (c3 : ∀ c, c < 5 → t.1 (32 * (5 + c) + 3) = nI (wri b c)) (c4 : ∀ c, c < 5 → t.1 (32 * (5 + c) + 4) = nI (frm b c)) (d2 : C2 b t) (d3 : C3 b t) : RepC b t := by
  obtain ⟨⟨h1, -⟩, -, -, ⟨g0, g1, g2, g3, g4, g5⟩, ⟨s0, s1, s2, s3, s4, s5⟩, ⟨k0, k1, k2, k3⟩, ⟨x0, x1⟩, ⟨o0, o1, o2, o3⟩⟩ := h
  refine ⟨⟨?_, c1, c2, c3, c4⟩, d2, d3, ?_, ?_, ?_, ?_, ?_⟩
  · rw [hf 0 (by decide), h1]
    show nI (a 0 0 0 0) = nI (b 0 0 0 0)
    rw [hb 0 (by decide)]
  · unfold C4 lcn lto lby lsm lrl lrp
    rw [hf 64 (by decide), hr 44 (by decide), hr 43 (by decide), hr 45 (by decide), hr 26 (by decide), hr 27 (by decide), hb 10 (by decide), hb 11 (by decide), hb 12 (by decide), hb 13 (by decide), hb 14 (by decide), hb 15 (by decide)]
    exact ⟨g0, g1, g2, g3, g4, g5⟩
  · unfold C5 scn sck spg sst rcn rel
    rw [hf 96 (by decide), hf 97 (by decide), hr 46 (by decide), hr 47 (by decide), hr 48 (by decide), hr 49 (by decide), hb 16 (by decide), hb 17 (by decide), hb 18 (by decide), hb 19 (by decide), hb 20 (by decide), hb 21 (by decide)]
    exact ⟨s0, s1, s2, s3, s4, s5⟩
  · unfold C6 gon bdn non fln
    rw [hf 1 (by decide), hf 1888 (by decide), hf 1889 (by decide), hf 1890 (by decide), hb 22 (by decide), hb 23 (by decide), hb 24 (by decide), hb 25 (by decide)]
    exact ⟨k0, k1, k2, k3⟩
  · unfold C7 tln txt
    rw [hf 1824 (by decide), hr 52 (by decide), hb 26 (by decide), hb 27 (by decide)]
    exact ⟨x0, x1⟩
  · unfold C8 ocn okd of1 of2
    rw [hf 1856 (by decide), hr 53 (by decide), hr 54 (by decide), hr 55 (by decide), hb 29 (by decide), hb 30 (by decide), hb 31 (by decide), hb 32 (by decide)]
    exact ⟨o0, o1, o2, o3⟩
theorem pC_isFull {a : AS} {σ : St} (h : RepC a σ) (hb : Bd a) {c : Nat} (hc : c < 5) {Φ : Int32 → St → Prop} (kk : Φ (b01 (now a c = 23)) σ) : wpX0_isFull (5 + c) σ Φ := by
  unfold wpX0_isFull
  have h23 := hb.2.1 c hc
  rw [h.1.2.2.1 c hc]
  refine pk_lt (now a c) 23 (fun q => ?_) (fun q => ?_)
  · rw [b01_f (by omega)] at kk
    exact kk
  · rw [b01_t (by omega)] at kk
    exact kk
theorem pC_sumNow {a : AS} {σ : St} (h : RepC a σ) (hb : Bd a) {c : Nat} (hc : c < 5) {Φ : Int32 → St → Prop} (kk : Φ (nI (pgs a c (now a c))) σ) : wpX0_sumNow (5 + c) σ Φ := by
  unfold wpX0_sumNow
  have h23 := hb.2.1 c hc
  rw [h.1.2.2.1 c hc]
  refine pC_at (by rw [(ln_a hc).2.1]; omega) ?_
  rw [(pl_a c).2.1, h.2.2.1.2.1 c hc _ (Nat.le_refl _)]
  exact kk
theorem pC_endOf {a : AS} {σ : St} (h : RepC a σ) (hb : Bd a) {c l : Nat} (hc : c < 5) (hl : l < 2 ^ 31) {Φ : Int32 → St → Prop} (kk : Φ (enV a c l) σ) : wpX0_endOf (5 + c) (nI l) σ Φ := by
  unfold wpX0_endOf
  have h60 := hb.2.2.2.2.1 c hc
  unfold enV at kk
  rw [h.1.2.1 c hc]
  refine ⟨fun z => absurd z (nI_pos hl), fun _ => pk_le (life a c) l (fun q => ?_) (fun q => ?_)⟩
  · rw [if_neg (by omega)] at kk
    exact kk
  · rw [if_pos q] at kk
    refine pC_at (by rw [(ln_a hc).2.2.1]; omega) ?_
    rw [(pl_a c).2.2.1, h.2.1 c hc l q]
    exact kk
theorem pC_hasPage {a : AS} {σ : St} (h : RepC a σ) (hb : Bd a) {c k : Nat} (hc : c < 5) (hk : k < 2 ^ 31) {Φ : Int32 → St → Prop} (kk : Φ (b01 (frm a c ≤ k ∧ k ≤ now a c)) σ) : wpX0_hasPage (5 + c) (nI k) σ Φ := by
  unfold wpX0_hasPage
  have h23 := hb.2.1 c hc
  have hfr := hb.2.2.2.1 c hc
  rw [h.1.2.2.2.2 c hc, h.1.2.2.1 c hc]
  refine pk_lt k (frm a c) (fun q => ?_) (fun q => pk_lt (now a c) k (fun q2 => ?_) (fun q2 => ?_))
  · rw [b01_f (by omega)] at kk
    exact kk
  · rw [b01_f (by omega)] at kk
    exact kk
  · rw [b01_t ⟨q, q2⟩] at kk
    exact kk
theorem lC_isDeadRest {a : AS} {σ : St} (h : RepC a σ) (hI : Inv a) {c l k : Nat} (hc : c < 5) (hk : k < 2 ^ 31) {Φ : Int32 → St → Prop} (kk : Φ (b01 (deadR a c l k)) σ) :
    ∀ (N i : Nat), l ≤ i → i < 2 ^ 30 → life a c - i < N → (∀ j, l ≤ j → j < i → j < life a c → ¬ ends a c j < k) → wlX0_isDeadRest_6 (5 + c) Φ N (nI k) (nI i) σ := by
  have h60 := hI.1.2.2.2.2.1 c hc
  intro N
  induction N with
  | zero => intro i h1 h2 h3; omega
  | succ N ih =>
    intro i hli hi hN hno
    show wlX0_isDeadRest_6_body (5 + c) Φ (wlX0_isDeadRest_6 (5 + c) Φ N) (nI k) (nI i) σ
    unfold wlX0_isDeadRest_6_body
    rw [h.1.2.1 c hc]
    refine pk_le (life a c) i (fun q => ?_) (fun q => ?_)
    · rw [b01_f] at kk
      · exact kk
      · rintro ⟨j, h1, h2, h3⟩
        exact hno j h1 (by omega) h2 h3
    · have hs := hI.2.1.2.2.2.2.1 c hc i q
      refine pC_at (by rw [(ln_a hc).2.2.1]; omega) ?_
      rw [(pl_a c).2.2.1, h.2.1 c hc i q]
      refine pk_le k (ends a c i) (fun z y5 e5 => ?_) (fun z => ?_)
      · rw [e5, nI_1]
        refine ih (i + 1) (by omega) (by omega) (by omega) (fun j h1 h2 h3 => ?_)
        by_cases e : j = i
        · subst e; omega
        · exact hno j h1 (by omega) h3
      · rw [b01_t ⟨i, hli, q, z⟩] at kk
        exact kk
theorem max0 {l : Nat} (hl : l < 2 ^ 31) : (if (0 : Int32) < nI l then nI l else (0 : Int32)) = nI l := by
  by_cases e : l = 0
  · subst e; rfl
  · rw [if_pos]
    rw [nI_lit 0, ltI (by decide) hl]
    omega
theorem pC_isDeadRest {a : AS} {σ : St} (h : RepC a σ) (hI : Inv a) {c l k : Nat} (hc : c < 5) (hl : l < 2 ^ 30) (hk : k < 2 ^ 31) {Φ : Int32 → St → Prop} (kk : Φ (b01 (deadR a c l k)) σ) : wpX0_isDeadRest (5 + c) (nI l) (nI k) σ Φ := by
  unfold wpX0_isDeadRest
  intro y1 e1
  rw [max0 (by omega)] at e1
  rw [e1]
  exact ⟨_, lC_isDeadRest h hI hc hk kk (life a c - l + 1) l (Nat.le_refl _) hl (by omega) (fun j h1 h2 => by omega)⟩
