/-- another place, the rest as it was -/
def plcA (a : AS) (p : Nat) : AS := sT a 28 (fun _ _ _ => p)
/-- only the place and the two numbers read have changed -/
def Sk (μ μ' : St) (p : Nat) : Prop := μ'.2 = μ.2 ∧ (∀ j, j ≠ 23 → j ≠ 24 → j ≠ 25 → μ'.1 j = μ.1 j) ∧ μ'.1 23 = nI p
theorem Sk_0 {μ : St} {p : Nat} (h : μ.1 23 = nI p) : Sk μ μ p := ⟨rfl, fun _ _ _ _ => rfl, h⟩
theorem Sk_23 {μ μ' : St} {p : Nat} (h : Sk μ μ' p) (q : Nat) : Sk μ (setI μ' 23 (nI q)) q := by
  refine ⟨h.1, fun j h1 h2 h3 => ?_, rfl⟩
  rw [setI_1, if_neg h1]
  exact h.2.1 j h1 h2 h3
theorem Sk_24 {μ μ' : St} {p : Nat} (h : Sk μ μ' p) (v : Int32) : Sk μ (setI μ' 24 v) p := by
  refine ⟨h.1, fun j h1 h2 h3 => ?_, h.2.2⟩
  rw [setI_1, if_neg h2]
  exact h.2.1 j h1 h2 h3
theorem Sk_25 {μ μ' : St} {p : Nat} (h : Sk μ μ' p) (v : Int32) : Sk μ (setI μ' 25 v) p := by
  refine ⟨h.1, fun j h1 h2 h3 => ?_, h.2.2⟩
  rw [setI_1, if_neg h3]
  exact h.2.1 j h1 h2 h3
theorem TxM_Sk {tx : Nat → Nat} {L : Nat} {μ μ' : St} {p : Nat} (h : TxM tx L μ) (hS : Sk μ μ' p) : TxM tx L μ' := by
  refine ⟨?_, ?_, h.2.2⟩
  · rw [hS.2.1 22 (by decide) (by decide) (by decide)]
    exact h.1
  · rw [hS.1]
    exact h.2.1
theorem RepM_Sk {a : AS} {μ μ' : St} {p : Nat} (h : RepM a μ) (hS : Sk μ μ' p) : RepM (plcA a p) μ' := by
  obtain ⟨x, y⟩ := μ'
  obtain ⟨e, r, e23⟩ := hS
  have e : y = μ.2 := e
  subst e
  obtain ⟨⟨g0, g1⟩, h2, h3, ⟨l0, l1⟩, ⟨s0, s1, s2, s3, s4, s5⟩, ⟨c0, c1⟩, ⟨t0, t1, t2⟩⟩ := h
  exact ⟨⟨(r 0 (by decide) (by decide) (by decide)).trans g0, g1⟩, h2, h3, ⟨(r 11 (by decide) (by decide) (by decide)).trans l0, l1⟩, ⟨(r 13 (by decide) (by decide) (by decide)).trans s0, s1, s2, s3, (r 15 (by decide) (by decide) (by decide)).trans s4, s5⟩, ⟨(r 16 (by decide) (by decide) (by decide)).trans c0, c1⟩, ⟨(r 22 (by decide) (by decide) (by decide)).trans t0, t1, e23⟩⟩
theorem inv_plc {a : AS} (h : Inv a) (p : Nat) : Inv (plcA a p) := by
  obtain ⟨hb, hs, hi, ⟨j1, j2, j3, j4, j5, j6, j7⟩⟩ := h
  exact ⟨hb, hs, hi, ⟨j1, j2, j3, j4, j5, j6, j7_of (a := a) (b := plcA a p) rfl j7⟩⟩
theorem RepC_plc {a : AS} {σ : St} (h : RepC a σ) (p : Nat) : RepC (plcA a p) σ := h
theorem pM_manyOf {k : Nat} (hk : k < 2 ^ 31) {μ : St} {Φ : Int32 → St → Prop} (k1 : many k = 3 → Φ (-1) μ) (k2 : many k ≠ 3 → Φ (nI (many k)) μ) : wpX10_manyOf (nI k) μ Φ := by
  unfold wpX10_manyOf
  refine pk_eq k 119 (fun e => by subst e; exact k2 (by decide)) (fun e1 => ?_)
  refine pk_eq k 115 (fun e => by subst e; exact k2 (by decide)) (fun e2 => ?_)
  refine pk_eq k 103 (fun e => by subst e; exact k2 (by decide)) (fun e3 => ?_)
  refine pk_eq k 108 (fun e => by subst e; exact k2 (by decide)) (fun e4 => ?_)
  refine pk_eq k 120 (fun e => by subst e; exact k2 (by decide)) (fun e5 => ?_)
  refine pk_eq k 111 (fun e => by subst e; exact k2 (by decide)) (fun e6 => ?_)
  refine pk_eq k 114 (fun e => by subst e; exact k2 (by decide)) (fun e7 => ?_)
  refine pk_eq k 117 (fun e => by subst e; exact k2 (by decide)) (fun e8 => ?_)
  refine k1 ?_
  unfold many
  rw [if_neg (by omega), if_neg (by omega), if_neg (by omega)]
theorem pM_manyNo {μ : St} {Φ : Int32 → St → Prop} (k1 : Φ (-1) μ) : wpX10_manyOf (-1) μ Φ := by
  unfold wpX10_manyOf
  exact ⟨fun e => absurd e (by decide), fun _ => ⟨fun e => absurd e (by decide), fun _ => ⟨fun e => absurd e (by decide), fun _ => ⟨fun e => absurd e (by decide), fun _ => ⟨fun e => absurd e (by decide), fun _ => ⟨fun e => absurd e (by decide), fun _ => ⟨fun e => absurd e (by decide), fun _ => ⟨fun e => absurd e (by decide), fun _ => k1⟩⟩⟩⟩⟩⟩⟩⟩
/-- what follows on what was read -/
def KO (μ : St) (Φ : Int32 → St → Prop) : RO → Prop
  | .inl f => ∀ t, Sk μ t f → Φ (-1) t
  | .inr (k, u, v, p) => ∀ t, Sk μ t p → t.1 24 = nI u → (many k = 2 → t.1 25 = nI v) → Φ (nI k) t
theorem pM_rdc {tx : Nat → Nat} {L : Nat} {μ μ' : St} {p k u v : Nat} (h : TxM tx L μ) (hS : Sk μ μ' p) (hp : p ≤ L) (h24 : μ'.1 24 = nI u) (h25 : many k = 2 → μ'.1 25 = nI v) {Φ : Int32 → St → Prop} (kk : KO μ Φ (rdc tx L k u v p)) : wbX10_reads_171 Φ (nI k) μ' := by
  unfold wbX10_reads_171
  have h' := TxM_Sk h hS
  have hL := h.2.2.1
  have hq := sk_le (tx := tx) hp
  refine pM_skip h' hp hS.2.2 ?_
  have hS2 := Sk_23 hS (sk tx L p)
  have h2 := TxM_Sk h hS2
  rw [hS2.2.2, h2.1]
  unfold rdc at kk
  refine pk_eq (sk tx L p) L (fun q => ?_) (fun q => ?_)
  · rw [if_neg (by omega)] at kk
    exact kk _ hS2
  · have hlt : sk tx L p < L := by omega
    have hx := h.2.2.2 _ hlt
    rw [rd_nI _ _ (by omega), h2.2.1 _ hlt]
    refine ⟨pk_in (sk tx L p) 120 (by omega), pk_eq (tx (sk tx L p)) 59 (fun z t5 e5 => ?_) (fun z => ?_)⟩
    · rw [if_pos ⟨hlt, z⟩] at kk
      rw [e5, nI_1]
      exact kk _ (Sk_23 hS2 _) h24 h25
    · rw [if_neg (fun y => z y.2)] at kk
      exact kk _ hS2
theorem pM_rdb {tx : Nat → Nat} {L n : Nat} {μ μ' : St} {p k u : Nat} (h : TxM tx L μ) (hn : μ.1 0 = nI n) (hn5 : 1 ≤ n ∧ n ≤ 5) (hk : k < 128) (hm3 : many k ≠ 3) (hu : u < 2 ^ 31) (hS : Sk μ μ' p) (hp : p ≤ L) {Φ : Int32 → St → Prop} (kk : KO μ Φ (rdb tx L n k u p)) : wbX10_reads_70 Φ (nI k) (nI (many k)) (nI u) μ' := by
  unfold wbX10_reads_70
  intro t1 e1
  have hS1 : Sk μ t1 p := by rw [e1]; exact Sk_24 hS _
  have h24 : t1.1 24 = nI u := by rw [e1]; rfl
  have hL := h.2.2.1
  rw [h24]
  refine ⟨fun z => ?_, fun hne => ?_⟩
  · rw [neI1 hu] at z
    exact z.elim
  unfold rdb at kk
  have hm4 : many k < 4 := by
    unfold many
    by_cases q1 : k = 119 ∨ k = 115 ∨ k = 103
    · rw [if_pos q1]; decide
    · rw [if_neg q1]
      by_cases q2 : k = 108 ∨ k = 120 ∨ k = 111
      · rw [if_pos q2]; decide
      · rw [if_neg q2]
        by_cases q3 : k = 114 ∨ k = 117
        · rw [if_pos q3]; decide
        · rw [if_neg q3]; decide
  have hq := sk_le (tx := tx) hp
  refine pk_eq (many k) 2 (fun m => ?_) (fun m => ?_)
  · rw [if_pos m] at kk
    have core : ∀ t4 y5, t4 = setI t1 23 (nI (sk tx L p)) → y5 = nI (sk tx L p) → wbX10_reads_128 Φ (nI k) y5 (nI (mostS k n)) t4 := by
      intro t4 y5 e4 e5
      have hS4 : Sk μ t4 (sk tx L p) := by rw [e4]; exact Sk_23 hS1 _
      have h44 : t4.1 24 = nI u := by rw [e4]; exact h24
      unfold wbX10_reads_128
      have hms : mostS k n < 1000 := by
        unfold mostS
        by_cases q1 : k = 119
        · rw [if_pos q1]; decide
        · rw [if_neg q1]
          by_cases q2 : k = 103
          · rw [if_pos q2]; decide
          · rw [if_neg q2]; omega
      have hfl := fgs_le (tx := tx) hq
      refine pM_takes (TxM_Sk h hS4) hq hS4.2.2 hms (fun g => ?_) (fun g => ?_)
      · rw [sk_sk] at g ⊢
        intro t3 e3
        have hS3 : Sk μ t3 (sk tx L p + fgs tx L (sk tx L p)) := by rw [e3]; exact Sk_25 (Sk_23 hS4 _) _
        have h34 : t3.1 24 = nI u := by rw [e3]; exact h44
        have h35 : t3.1 25 = nI (vl tx (sk tx L p) (fgs tx L (sk tx L p))) := by rw [e3]; rfl
        have hv := g.2.2
        have go : ¬ (k = 115 ∧ vl tx (sk tx L p) (fgs tx L (sk tx L p)) = u) → wbX10_reads_161 Φ (nI k) t3 := by
          intro z
          rw [if_pos ⟨g, z⟩] at kk
          unfold wbX10_reads_161
          rw [h35]
          refine ⟨fun y => ?_, fun _ => ?_⟩
          · rw [neI1 (by omega)] at y
            exact y.elim
          · exact pM_rdc h hS3 hfl h34 (fun _ => h35) kk
        rw [h34, h35]
        refine pk_eq k 115 (fun y => ?_) (fun y => go (fun x => y x.1))
        refine pk_eq (vl tx (sk tx L p) (fgs tx L (sk tx L p))) u (fun x t6 e6 t7 e7 => ?_) (fun x => go (fun w => x w.2))
        rw [if_neg (fun w => w.2 ⟨y, x⟩)] at kk
        unfold wbX10_reads_161
        have h75 : t7.1 25 = -1 := by rw [e7]; rfl
        rw [h75]
        refine ⟨fun _ => kk t7 ?_, fun w => absurd rfl w⟩
        rw [e7, e6, e5]
        exact Sk_25 (Sk_23 hS3 _) _
      · rw [sk_sk] at g ⊢
        rw [if_neg (fun w => g w.1)] at kk
        intro t3 e3
        have hS3 : Sk μ t3 (sk tx L p) := by rw [e3]; exact Sk_25 (Sk_23 hS4 _) _
        have h34 : t3.1 24 = nI u := by rw [e3]; exact h44
        have h35 : t3.1 25 = -1 := by rw [e3]; rfl
        have go : wbX10_reads_161 Φ (nI k) t3 := by
          unfold wbX10_reads_161
          rw [h35]
          exact ⟨fun _ => kk t3 hS3, fun w => absurd rfl w⟩
        rw [h34, h35]
        refine pk_eq k 115 (fun y => ⟨fun x => ?_, fun _ => go⟩) (fun y => go)
        exact absurd x.symm hne
    refine pM_skip (TxM_Sk h hS1) hp hS1.2.2 (fun y5 e5 => ?_)
    have e50 : (setI t1 23 (nI (sk tx L p))).1 0 - (1 : Int32) = nI (n - 1) := by
      have : (setI t1 23 (nI (sk tx L p))).1 0 = nI n := (hS1.2.1 0 (by decide) (by decide) (by decide)).trans hn
      rw [this, nI_lit 1, subI (by omega)]
    have c0 := core _ y5 rfl e5
    refine pk_eq k 119 (fun y => ?_) (fun y => pk_eq k 103 (fun y2 => ?_) (fun y2 => ?_))
    · have e : mostS k n = 999 := by unfold mostS; rw [if_pos y]
      rw [e] at c0
      exact c0
    · have e : mostS k n = 99 := by unfold mostS; rw [if_neg y, if_pos y2]
      rw [e] at c0
      exact c0
    · have e : mostS k n = n - 1 := by unfold mostS; rw [if_neg y, if_neg y2]
      rw [e, ← e50] at c0
      exact c0
  · rw [if_neg m] at kk
    exact pM_rdc h hS1 hp h24 (fun z => absurd z m) kk
theorem pM_rda {tx : Nat → Nat} {L n : Nat} {μ μ' : St} {q k : Nat} (h : TxM tx L μ) (hn : μ.1 0 = nI n) (hn5 : 1 ≤ n ∧ n ≤ 5) (hk : k < 128) (hS : Sk μ μ' q) (hp : q < L) {Φ : Int32 → St → Prop} (kk : KO μ Φ (if many k ≠ 3 then rda tx L n k (q + 1) else .inl q)) : wbX10_reads_28 Φ (nI k) μ' := by
  unfold wbX10_reads_28
  have hL := h.2.2.1
  refine pM_manyOf (by omega) (fun m => ?_) (fun m => ?_)
  · rw [if_neg (fun z => z m)] at kk
    exact ⟨fun _ => kk μ' hS, fun z => absurd rfl z⟩
  · rw [if_pos m] at kk
    have hm4 : many k < 2 ^ 31 := by
      unfold many
      by_cases q1 : k = 119 ∨ k = 115 ∨ k = 103
      · rw [if_pos q1]; decide
      · rw [if_neg q1]
        by_cases q2 : k = 108 ∨ k = 120 ∨ k = 111
        · rw [if_pos q2]; decide
        · rw [if_neg q2]
          by_cases q3 : k = 114 ∨ k = 117
          · rw [if_pos q3]; decide
          · rw [if_neg q3]; decide
    refine ⟨fun z => ?_, fun _ t4 e4 => ?_⟩
    · rw [neI1 hm4] at z
      exact z.elim
    rw [hS.2.2, nI_1] at e4
    have hS4 : Sk μ t4 (q + 1) := by rw [e4]; exact Sk_23 hS _
    unfold rda at kk
    have hq := sk_le (tx := tx) (show q + 1 ≤ L from hp)
    have hfl := fgs_le (tx := tx) hq
    refine pk_le (many k) 0 (fun z => ?_) (fun z => ?_)
    · rw [if_neg (by omega)] at kk
      exact pM_rdb h hn hn5 hk m (by decide) hS4 hp kk
    · rw [if_pos (by omega)] at kk
      have e50 : t4.1 0 - (1 : Int32) = nI (n - 1) := by
        rw [(hS4.2.1 0 (by decide) (by decide) (by decide)).trans hn, nI_lit 1, subI (by omega)]
      rw [e50]
      refine pM_takes (TxM_Sk h hS4) hp hS4.2.2 (by omega) (fun g => ?_) (fun g => ?_)
      · rw [if_pos g] at kk
        have hv := g.2.2
        exact pM_rdb h hn hn5 hk m (by omega) (Sk_23 hS4 _) hfl kk
      · rw [if_neg g] at kk
        unfold wbX10_reads_70
        intro t1 e1
        have h14 : t1.1 24 = -1 := by rw [e1]; rfl
        rw [h14]
        refine ⟨fun _ => kk t1 ?_, fun w => absurd rfl w⟩
        rw [e1]
        exact Sk_24 (Sk_23 hS4 _) _
theorem pM_reads {tx : Nat → Nat} {L n : Nat} {μ : St} {p : Nat} (h : TxM tx L μ) (hn : μ.1 0 = nI n) (hn5 : 1 ≤ n ∧ n ≤ 5) (hp : p ≤ L) (e : μ.1 23 = nI p) {Φ : Int32 → St → Prop} (kk : KO μ Φ (rdO tx L n p)) : wpX10_reads μ Φ := by
  unfold wpX10_reads
  have hL := h.2.2.1
  have hq := sk_le (tx := tx) hp
  refine pM_skip h hp e ?_
  have hS := Sk_23 (Sk_0 e) (sk tx L p)
  have h2 := TxM_Sk h hS
  rw [hS.2.2, h2.1]
  unfold rdO at kk
  refine pk_le L (sk tx L p) (fun z => ?_) (fun z => ?_)
  · rw [if_neg (by omega)] at kk
    unfold wbX10_reads_28
    exact pM_manyNo ⟨fun _ => kk _ hS, fun z => absurd rfl z⟩
  · rw [rd_nI _ _ (by omega), h2.2.1 _ z]
    refine ⟨pk_in (sk tx L p) 120 (by omega), pM_rda h hn hn5 (h.2.2.2 _ z) hS z ?_⟩
    by_cases m : many (tx (sk tx L p)) ≠ 3
    · rw [if_pos ⟨z, m⟩] at kk
      rw [if_pos m]
      exact kk
    · rw [if_neg (fun y => m y.2)] at kk
      rw [if_neg m]
      exact kk
