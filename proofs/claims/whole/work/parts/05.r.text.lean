-- THE TEXT: what is read
def skp (tx : Nat → Nat) (L : Nat) : Nat → Nat → Nat
  | 0, p => p
  | N + 1, p => if tx p = 32 then skp tx L N (p + 1) else p
/-- the place behind blanks -/
def sk (tx : Nat → Nat) (L p : Nat) : Nat := skp tx L (L - p) p
theorem sk_t {tx : Nat → Nat} {L p : Nat} (h : p < L) (h2 : tx p = 32) : sk tx L p = sk tx L (p + 1) := by
  unfold sk
  obtain ⟨N, e⟩ : ∃ N, L - p = N + 1 := ⟨L - p - 1, by omega⟩
  have e2 : L - (p + 1) = N := by omega
  rw [e, e2]
  show (if tx p = 32 then skp tx L N (p + 1) else p) = _
  rw [if_pos h2]
theorem sk_f {tx : Nat → Nat} {L p : Nat} (h : ¬ (p < L ∧ tx p = 32)) : sk tx L p = p := by
  unfold sk
  by_cases q : p < L
  · obtain ⟨N, e⟩ : ∃ N, L - p = N + 1 := ⟨L - p - 1, by omega⟩
    rw [e]
    show (if tx p = 32 then skp tx L N (p + 1) else p) = _
    rw [if_neg (fun z => h ⟨q, z⟩)]
  · rw [show L - p = 0 by omega]
    rfl
theorem sk_ok {tx : Nat → Nat} {L : Nat} : ∀ (N p : Nat), L - p < N → p ≤ sk tx L p ∧ (p ≤ L → sk tx L p ≤ L) ∧ ¬ (sk tx L p < L ∧ tx (sk tx L p) = 32) := by
  intro N
  induction N with
  | zero => intro p h; omega
  | succ N ih =>
    intro p h
    by_cases q : p < L ∧ tx p = 32
    · rw [sk_t q.1 q.2]
      obtain ⟨a, b, c⟩ := ih (p + 1) (by omega)
      exact ⟨by omega, fun _ => b (by omega), c⟩
    · rw [sk_f q]
      exact ⟨Nat.le_refl _, fun z => z, q⟩
theorem sk_ge (tx : Nat → Nat) (L p : Nat) : p ≤ sk tx L p := (sk_ok (L - p + 1) p (Nat.lt_succ_self _)).1
theorem sk_le {tx : Nat → Nat} {L p : Nat} (h : p ≤ L) : sk tx L p ≤ L := (sk_ok (L - p + 1) p (Nat.lt_succ_self _)).2.1 h
theorem sk_end (tx : Nat → Nat) (L p : Nat) : ¬ (sk tx L p < L ∧ tx (sk tx L p) = 32) := (sk_ok (L - p + 1) p (Nat.lt_succ_self _)).2.2
theorem sk_sk (tx : Nat → Nat) (L p : Nat) : sk tx L (sk tx L p) = sk tx L p := sk_f (sk_end tx L p)
def isFg (tx : Nat → Nat) (L i : Nat) : Prop := i < L ∧ 48 ≤ tx i ∧ tx i ≤ 57
def fgp (tx : Nat → Nat) (L : Nat) : Nat → Nat → Nat
  | 0, _ => 0
  | N + 1, p => if 48 ≤ tx p ∧ tx p ≤ 57 then fgp tx L N (p + 1) + 1 else 0
/-- how many figures stand there -/
def fgs (tx : Nat → Nat) (L p : Nat) : Nat := fgp tx L (L - p) p
theorem fgp_ok {tx : Nat → Nat} {L : Nat} : ∀ (N p : Nat), L - p = N → (∀ j, j < fgp tx L N p → isFg tx L (p + j)) ∧ ¬ isFg tx L (p + fgp tx L N p) := by
  intro N
  induction N with
  | zero =>
    intro p h
    refine ⟨fun j hj => absurd hj (Nat.not_lt_zero j), fun z => ?_⟩
    have := z.1
    omega
  | succ N ih =>
    intro p h
    obtain ⟨i1, i2⟩ := ih (p + 1) (by omega)
    show (∀ j, j < (if 48 ≤ tx p ∧ tx p ≤ 57 then fgp tx L N (p + 1) + 1 else 0) → isFg tx L (p + j)) ∧ ¬ isFg tx L (p + (if 48 ≤ tx p ∧ tx p ≤ 57 then fgp tx L N (p + 1) + 1 else 0))
    by_cases q : 48 ≤ tx p ∧ tx p ≤ 57
    · rw [if_pos q]
      refine ⟨fun j hj => ?_, ?_⟩
      · cases j with
        | zero => exact ⟨by omega, q⟩
        | succ j =>
          have := i1 j (by omega)
          rw [show p + (j + 1) = p + 1 + j by omega]
          exact this
      · rw [show p + (fgp tx L N (p + 1) + 1) = p + 1 + fgp tx L N (p + 1) by omega]
        exact i2
    · rw [if_neg q]
      exact ⟨fun j hj => absurd hj (Nat.not_lt_zero j), fun z => q z.2⟩
theorem fgs_in {tx : Nat → Nat} {L p j : Nat} (h : j < fgs tx L p) : isFg tx L (p + j) := (fgp_ok (L - p) p rfl).1 j h
theorem fgs_end (tx : Nat → Nat) (L p : Nat) : ¬ isFg tx L (p + fgs tx L p) := (fgp_ok (L - p) p rfl).2
theorem fgs_le {tx : Nat → Nat} {L p : Nat} (h : p ≤ L) : p + fgs tx L p ≤ L := by
  by_cases q : fgs tx L p = 0
  · omega
  · have := (fgs_in (tx := tx) (L := L) (p := p) (j := fgs tx L p - 1) (by omega)).1
    omega
/-- the value of the first k figures -/
def vl (tx : Nat → Nat) (p : Nat) : Nat → Nat
  | 0 => 0
  | k + 1 => 10 * vl tx p k + (tx (p + k) - 48)
theorem vl_le {tx : Nat → Nat} {L p : Nat} : ∀ k, k ≤ fgs tx L p → vl tx p k < 10 ^ k := by
  intro k
  induction k with
  | zero => intro _; exact Nat.lt_of_lt_of_le Nat.zero_lt_one (Nat.le_refl 1)
  | succ k ih =>
    intro h
    have h1 := ih (by omega)
    have h2 := fgs_in (tx := tx) (L := L) (p := p) (j := k) (by omega)
    have h3 := h2.2.2
    show 10 * vl tx p k + (tx (p + k) - 48) < 10 ^ (k + 1)
    rw [Nat.pow_succ]
    omega
abbrev goodN (tx : Nat → Nat) (L q most : Nat) : Prop := 1 ≤ fgs tx L q ∧ fgs tx L q ≤ 3 ∧ vl tx q (fgs tx L q) ≤ most
/-- how many numbers an order has; 3: no such order -/
def many (c : Nat) : Nat := if c = 119 ∨ c = 115 ∨ c = 103 then 2 else if c = 108 ∨ c = 120 ∨ c = 111 then 1 else if c = 114 ∨ c = 117 then 0 else 3
def mostS (c n : Nat) : Nat := if c = 119 then 999 else if c = 103 then 99 else n - 1
/-- a fault's place, or an order: its letter, numbers, the place behind it -/
abbrev RO : Type := Nat ⊕ (Nat × Nat × Nat × Nat)
def rdc (tx : Nat → Nat) (L k u v p : Nat) : RO := if sk tx L p < L ∧ tx (sk tx L p) = 59 then .inr (k, u, v, sk tx L p + 1) else .inl (sk tx L p)
def rdb (tx : Nat → Nat) (L n k u p : Nat) : RO :=
  if many k = 2 then (if goodN tx L (sk tx L p) (mostS k n) ∧ ¬ (k = 115 ∧ vl tx (sk tx L p) (fgs tx L (sk tx L p)) = u) then rdc tx L k u (vl tx (sk tx L p) (fgs tx L (sk tx L p))) (sk tx L p + fgs tx L (sk tx L p)) else .inl (sk tx L p)) else rdc tx L k u 0 p
def rda (tx : Nat → Nat) (L n k p : Nat) : RO :=
  if 1 ≤ many k then (if goodN tx L (sk tx L p) (n - 1) then rdb tx L n k (vl tx (sk tx L p) (fgs tx L (sk tx L p))) (sk tx L p + fgs tx L (sk tx L p)) else .inl (sk tx L p)) else rdb tx L n k 0 p
def rdO (tx : Nat → Nat) (L n p : Nat) : RO :=
  if sk tx L p < L ∧ many (tx (sk tx L p)) ≠ 3 then rda tx L n (tx (sk tx L p)) (sk tx L p + 1) else .inl (sk tx L p)
/-- what an order that was read is like -/
def okO (L n p k u v p' : Nat) : Prop := many k ≠ 3 ∧ p + 2 ≤ p' ∧ p' ≤ L ∧ u ≤ n - 1 ∧ (many k = 2 → v ≤ mostS k n)
theorem rdc_ok {tx : Nat → Nat} {L k u v p : Nat} (hp : p ≤ L) : (∀ f, rdc tx L k u v p = .inl f → f ≤ L) ∧ (∀ k' u' v' p', rdc tx L k u v p = .inr (k', u', v', p') → k' = k ∧ u' = u ∧ v' = v ∧ p < p' ∧ p' ≤ L) := by
  unfold rdc
  have h1 := sk_ge tx L p
  have h2 := sk_le (tx := tx) hp
  by_cases q : sk tx L p < L ∧ tx (sk tx L p) = 59
  · rw [if_pos q]
    refine ⟨fun f e => (by cases e), fun k' u' v' p' e => ?_⟩
    injection e with e
    injection e with e1 e
    injection e with e2 e
    injection e with e3 e4
    subst e1 e2 e3 e4
    exact ⟨rfl, rfl, rfl, by omega, by omega⟩
  · rw [if_neg q]
    refine ⟨fun f e => ?_, fun k' u' v' p' e => (by cases e)⟩
    injection e with e
    omega
theorem rdb_ok {tx : Nat → Nat} {L n k u p : Nat} (hp : p ≤ L) : (∀ f, rdb tx L n k u p = .inl f → f ≤ L) ∧ (∀ k' u' v' p', rdb tx L n k u p = .inr (k', u', v', p') → k' = k ∧ u' = u ∧ (many k = 2 → v' ≤ mostS k n) ∧ p < p' ∧ p' ≤ L) := by
  unfold rdb
  have h1 := sk_ge tx L p
  have h2 := sk_le (tx := tx) hp
  have h3 := fgs_le (tx := tx) h2
  by_cases m : many k = 2
  · rw [if_pos m]
    by_cases q : goodN tx L (sk tx L p) (mostS k n) ∧ ¬ (k = 115 ∧ vl tx (sk tx L p) (fgs tx L (sk tx L p)) = u)
    · rw [if_pos q]
      obtain ⟨r1, r2⟩ := rdc_ok (tx := tx) (k := k) (u := u) (v := vl tx (sk tx L p) (fgs tx L (sk tx L p))) h3
      refine ⟨r1, fun k' u' v' p' e => ?_⟩
      obtain ⟨e1, e2, e3, e4, e5⟩ := r2 k' u' v' p' e
      exact ⟨e1, e2, fun _ => by rw [e3]; exact q.1.2.2, by omega, e5⟩
    · rw [if_neg q]
      refine ⟨fun f e => ?_, fun k' u' v' p' e => (by cases e)⟩
      injection e with e
      omega
  · rw [if_neg m]
    obtain ⟨r1, r2⟩ := rdc_ok (tx := tx) (k := k) (u := u) (v := 0) hp
    refine ⟨r1, fun k' u' v' p' e => ?_⟩
    obtain ⟨e1, e2, e3, e4, e5⟩ := r2 k' u' v' p' e
    exact ⟨e1, e2, fun z => absurd z m, by omega, e5⟩
theorem rda_ok {tx : Nat → Nat} {L n k p : Nat} (hp : p ≤ L) : (∀ f, rda tx L n k p = .inl f → f ≤ L) ∧ (∀ k' u' v' p', rda tx L n k p = .inr (k', u', v', p') → k' = k ∧ u' ≤ n - 1 ∧ (many k = 2 → v' ≤ mostS k n) ∧ p < p' ∧ p' ≤ L) := by
  unfold rda
  have h1 := sk_ge tx L p
  have h2 := sk_le (tx := tx) hp
  have h3 := fgs_le (tx := tx) h2
  by_cases m : 1 ≤ many k
  · rw [if_pos m]
    by_cases q : goodN tx L (sk tx L p) (n - 1)
    · rw [if_pos q]
      obtain ⟨r1, r2⟩ := rdb_ok (tx := tx) (n := n) (k := k) (u := vl tx (sk tx L p) (fgs tx L (sk tx L p))) h3
      refine ⟨r1, fun k' u' v' p' e => ?_⟩
      obtain ⟨e1, e2, e3, e4, e5⟩ := r2 k' u' v' p' e
      exact ⟨e1, by rw [e2]; exact q.2.2, e3, by omega, e5⟩
    · rw [if_neg q]
      refine ⟨fun f e => ?_, fun k' u' v' p' e => (by cases e)⟩
      injection e with e
      omega
  · rw [if_neg m]
    obtain ⟨r1, r2⟩ := rdb_ok (tx := tx) (n := n) (k := k) (u := 0) hp
    refine ⟨r1, fun k' u' v' p' e => ?_⟩
    obtain ⟨e1, e2, e3, e4, e5⟩ := r2 k' u' v' p' e
    exact ⟨e1, by omega, e3, e4, e5⟩
theorem rdO_ok {tx : Nat → Nat} {L n p : Nat} (hp : p ≤ L) : (∀ f, rdO tx L n p = .inl f → f ≤ L) ∧ (∀ k u v p', rdO tx L n p = .inr (k, u, v, p') → okO L n p k u v p') := by
  unfold rdO
  have h1 := sk_ge tx L p
  have h2 := sk_le (tx := tx) hp
  by_cases q : sk tx L p < L ∧ many (tx (sk tx L p)) ≠ 3
  · rw [if_pos q]
    obtain ⟨r1, r2⟩ := rda_ok (tx := tx) (n := n) (k := tx (sk tx L p)) (p := sk tx L p + 1) q.1
    refine ⟨r1, fun k' u' v' p' e => ?_⟩
    obtain ⟨e1, e2, e3, e4, e5⟩ := r2 k' u' v' p' e
    exact ⟨by rw [e1]; exact q.2, by omega, e5, e2, by rw [e1]; exact e3⟩
  · rw [if_neg q]
    refine ⟨fun f e => ?_, fun k' u' v' p' e => (by cases e)⟩
    injection e with e
    omega
-- THE REFERENCE READS
/-- the text, as the reference holds it -/
def TxM (tx : Nat → Nat) (L : Nat) (μ : St) : Prop := μ.1 22 = nI L ∧ (∀ i, i < L → μ.2 15 i = nI (tx i)) ∧ L ≤ 120 ∧ (∀ i, i < L → tx i < 128)
theorem TxM_set {tx : Nat → Nat} {L : Nat} {μ : St} (h : TxM tx L μ) {k : Nat} (hk : k ≠ 22) (v : Int32) : TxM tx L (setI μ k v) := by
  refine ⟨?_, h.2.1, h.2.2⟩
  rw [setI_1, if_neg (Ne.symm hk)]
  exact h.1
theorem set_set (μ : St) (k : Nat) (v w : Int32) : setI (setI μ k v) k w = setI μ k w := by
  refine Prod.ext ?_ rfl
  funext j
  rw [setI_1, setI_1, setI_1]
  by_cases h : j = k
  · rw [if_pos h, if_pos h]
  · rw [if_neg h, if_neg h, if_neg h]
theorem set_same {μ : St} {k : Nat} {v : Int32} (h : μ.1 k = v) : setI μ k v = μ := by
  refine Prod.ext ?_ rfl
  funext j
  rw [setI_1]
  by_cases e : j = k
  · rw [if_pos e, e, h]
  · rw [if_neg e]
theorem lM_skip {tx : Nat → Nat} {L : Nat} {μ : St} (h : TxM tx L μ) {Φ : St → Prop} : ∀ (N p : Nat), L - p < N → p ≤ L → Φ (setI μ 23 (nI (sk tx L p))) → wlX10_skip_0 Φ N (setI μ 23 (nI p)) := by
  have hL := h.2.2.1
  intro N
  induction N with
  | zero => intro p h1; omega
  | succ N ih =>
    intro p hN hp kk
    show wlX10_skip_0_body Φ (wlX10_skip_0 Φ N) (setI μ 23 (nI p))
    unfold wlX10_skip_0_body
    have e1 : (setI μ 23 (nI p)).1 22 = nI L := h.1
    have e2 : (setI μ 23 (nI p)).1 23 = nI p := rfl
    rw [e1, e2]
    refine pk_le L p (fun q => ?_) (fun q => ?_)
    · rw [sk_f (by omega)] at kk
      exact kk
    · have e3 : rd (setI μ 23 (nI p)) 15 (nI p) = nI (tx p) := by
        rw [rd_nI _ _ (by omega)]
        exact h.2.1 p q
      have hx := h.2.2.2 p q
      rw [e3]
      refine ⟨pk_in p 120 (by omega), pk_eq (tx p) 32 (fun z t4 e4 => ?_) (fun z => ?_)⟩
      · rw [e4, set_set, nI_1]
        rw [sk_t q z] at kk
        exact ih (p + 1) (by omega) (by omega) kk
      · rw [sk_f (fun y => z y.2)] at kk
        exact kk
theorem pM_skip {tx : Nat → Nat} {L : Nat} {μ : St} (h : TxM tx L μ) {p : Nat} (hp : p ≤ L) (e : μ.1 23 = nI p) {Φ : St → Prop} (kk : Φ (setI μ 23 (nI (sk tx L p)))) : wpX10_skip μ Φ := by
  unfold wpX10_skip
  refine ⟨L - p + 1, ?_⟩
  have := lM_skip h (L - p + 1) p (by omega) hp kk
  rw [set_same e] at this
  exact this
theorem pM_isFigure {tx : Nat → Nat} {L : Nat} {μ : St} (h : TxM tx L μ) {p : Nat} (hp : p ≤ 200) {Φ : Int32 → St → Prop} (kk : Φ (b01 (isFg tx L p)) μ) : wpX10_isFigure (nI p) μ Φ := by
  unfold wpX10_isFigure
  have hL := h.2.2.1
  rw [h.1]
  refine pk_le L p (fun q => ?_) (fun q => ?_)
  · rw [b01_f (fun z => by have := z.1; omega)] at kk
    exact kk
  · rw [rd_nI _ _ (by omega), h.2.1 p q]
    have hx := h.2.2.2 p q
    refine ⟨pk_in p 120 (by omega), ?_⟩
    refine pM_in (lo := nI 48) (hi := nI 57) (brB (fun z => ?_) (fun z => ?_))
    · rw [leI (by omega) (by omega), leI (by omega) (by omega)] at z
      rw [b01_f (fun y => z y.2)] at kk
      exact kk
    · rw [leI (by omega) (by omega), leI (by omega) (by omega)] at z
      rw [b01_t ⟨q, z⟩] at kk
      exact kk
theorem lM_takes {tx : Nat → Nat} {L : Nat} {μ : St} (h : TxM tx L μ) {q most : Nat} (hq : q ≤ L) (hm : most < 1000) {Φ : Int32 → St → Prop} (k1 : goodN tx L q most → Φ (nI (vl tx q (fgs tx L q))) (setI μ 23 (nI (q + fgs tx L q)))) (k2 : ¬ goodN tx L q most → Φ (-1) (setI μ 23 (nI q))) :
    ∀ (N k : Nat), k ≤ 4 → k ≤ fgs tx L q → 4 - k < N → wlX10_takes_11 Φ N (nI most) (nI (q + k)) (nI (vl tx q k)) (setI μ 23 (nI q)) := by
  have hL := h.2.2.1
  intro N
  induction N with
  | zero => intro k h1 h2 h3; omega
  | succ N ih =>
    intro k hk4 hkf hN
    have hfl := fgs_le (tx := tx) hq
    have hv := vl_le (tx := tx) (L := L) (p := q) k hkf
    have hv4 : vl tx q k < 10000 := Nat.lt_of_lt_of_le hv (by
      rcases (show k = 0 ∨ k = 1 ∨ k = 2 ∨ k = 3 ∨ k = 4 by omega) with rfl | rfl | rfl | rfl | rfl <;> decide)
    show wlX10_takes_11_body Φ (wlX10_takes_11 Φ N) (nI most) (nI (q + k)) (nI (vl tx q k)) (setI μ 23 (nI q))
    unfold wlX10_takes_11_body
    have e2 : (setI μ 23 (nI q)).1 23 = nI q := rfl
    have esub : nI (q + k) - nI q = nI k := by rw [subI (by omega), show q + k - q = k by omega]
    have out : (k = fgs tx L q ∨ k = 4) → wbX10_takes_50 Φ (nI most) (nI (q + k)) (nI (vl tx q k)) (setI μ 23 (nI q)) := by
      intro hx
      unfold wbX10_takes_50 wbX10_takes_76 wbX10_takes_77 wbX10_takes_93
      rw [e2, esub]
      refine pM_in (lo := nI 1) (hi := nI 3) (brB (fun z => ?_) (fun z => ?_))
      · rw [leI (by omega) (by omega), leI (by omega) (by omega)] at z
        refine ⟨fun _ t1 e1 => ⟨fun _ => ?_, fun y => absurd rfl y⟩, fun y => absurd rfl y⟩
        rw [e1, set_set]
        refine k2 (fun g => ?_)
        have g1 := g.1
        have g2 := g.2.1
        omega
      · rw [leI (by omega) (by omega), leI (by omega) (by omega)] at z
        have hkk : k = fgs tx L q := by omega
        refine pk_lt most (vl tx q k) (fun y => ?_) (fun y => ?_)
        · refine ⟨fun _ t1 e1 => ⟨fun _ => ?_, fun y => absurd rfl y⟩, fun y => absurd rfl y⟩
          rw [e1, set_set]
          refine k2 (fun g => ?_)
          have g3 := g.2.2
          rw [← hkk] at g3
          omega
        · refine ⟨fun x => absurd x (by decide), fun _ t1 e1 => ⟨fun x => absurd x (by decide), fun _ => ?_⟩⟩
          rw [e1, set_set]
          subst hkk
          exact k1 ⟨z.1, z.2, y⟩
    refine pM_isFigure (TxM_set h (by decide) _) (p := q + k) (by omega) (brB (fun z => ?_) (fun z => ?_))
    · refine out ?_
      by_cases y : k = fgs tx L q
      · exact Or.inl y
      · exact absurd (fgs_in (by omega)) z
    · rw [e2, esub]
      refine pk_le 4 k (fun y => ?_) (fun y => ?_)
      · exact out (Or.inr (by omega))
      · have hlt : k < fgs tx L q := by
          by_cases x : k = fgs tx L q
          · subst x
            exact absurd z (fgs_end tx L q)
          · omega
        refine ⟨pk_in (q + k) 120 (by have := z.1; omega), fun y6 e6 y7 e7 => ?_⟩
        have e3 : rd (setI μ 23 (nI q)) 15 (nI (q + k)) = nI (tx (q + k)) := by
          rw [rd_nI _ _ (by omega)]
          exact h.2.1 _ z.1
        have z2 := z.2
        rw [e3, nI_lit 10, mulI, addI, nI_lit 48, subI (by omega)] at e6
        rw [e6, e7, nI_1]
        have := ih (k + 1) (by omega) (by omega) (by omega)
        rw [show vl tx q (k + 1) = 10 * vl tx q k + tx (q + k) - 48 by show 10 * vl tx q k + (tx (q + k) - 48) = _; omega] at this
        exact this
theorem pM_takes {tx : Nat → Nat} {L : Nat} {μ : St} (h : TxM tx L μ) {p most : Nat} (hp : p ≤ L) (e : μ.1 23 = nI p) (hm : most < 1000) {Φ : Int32 → St → Prop} (k1 : goodN tx L (sk tx L p) most → Φ (nI (vl tx (sk tx L p) (fgs tx L (sk tx L p)))) (setI μ 23 (nI (sk tx L p + fgs tx L (sk tx L p))))) (k2 : ¬ goodN tx L (sk tx L p) most → Φ (-1) (setI μ 23 (nI (sk tx L p)))) : wpX10_takes (nI most) μ Φ := by
  unfold wpX10_takes
  refine pM_skip h hp e (fun y2 e2 => ⟨5, ?_⟩)
  rw [e2]
  exact lM_takes h (sk_le hp) hm k1 k2 5 0 (by omega) (Nat.zero_le _) (by omega)
