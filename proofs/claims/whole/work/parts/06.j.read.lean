-- THE CLASS: reading
def TxC (tx : Nat → Nat) (L : Nat) (σ : St) : Prop := σ.1 1824 = nI L ∧ (∀ i, i < L → σ.2 52 i = nI (tx i)) ∧ L ≤ 120 ∧ (∀ i, i < L → tx i < 128)
/-- only place and fault have changed -/
def Rg (σ t : St) (p : Nat) (f : Int32) : Prop := t.2 = σ.2 ∧ (∀ j, j ≠ 1857 → j ≠ 1858 → t.1 j = σ.1 j) ∧ t.1 1857 = nI p ∧ t.1 1858 = f
theorem TxC_Rg {tx : Nat → Nat} {L : Nat} {σ t : St} {p : Nat} {f : Int32} (h : TxC tx L σ) (g : Rg σ t p f) : TxC tx L t := by
  refine ⟨?_, ?_, h.2.2⟩
  · rw [g.2.1 1824 (by decide) (by decide)]
    exact h.1
  · rw [g.1]
    exact h.2.1
theorem Rg_place {σ t : St} {p : Nat} {f : Int32} (g : Rg σ t p f) (q : Nat) : Rg σ (setI t 1857 (nI q)) q f := by
  refine ⟨g.1, fun j h1 h2 => ?_, rfl, g.2.2.2⟩
  rw [setI_1, if_neg h1]
  exact g.2.1 j h1 h2
theorem Rg_fault {σ t : St} {p : Nat} {f : Int32} (g : Rg σ t p f) (v : Int32) : Rg σ (setI t 1858 v) p v := by
  refine ⟨g.1, fun j h1 h2 => ?_, g.2.2.1, rfl⟩
  rw [setI_1, if_neg h2]
  exact g.2.1 j h1 h2
theorem pC_byteAt {tx : Nat → Nat} {L : Nat} {σ : St} (h : TxC tx L σ) {i : Nat} (hi : i < 2 ^ 31) {Φ : Int32 → St → Prop} (k1 : i < L → Φ (nI (tx i)) σ) (k2 : L ≤ i → Φ (-1) σ) : wpX8_byteAt (nI i) σ Φ := by
  unfold wpX8_byteAt
  have hL := h.2.2.1
  have hcl : cLen 52 = 120 := by decide
  rw [h.1]
  refine ⟨fun z => absurd z (nI_pos hi), fun _ => pk_le L i k2 (fun q => pC_at (by rw [hcl]; omega) ?_)⟩
  rw [h.2.1 i q]
  exact k1 q
theorem lC_skip {tx : Nat → Nat} {L : Nat} {σ : St} (h : TxC tx L σ) {f : Int32} {Φ : St → Prop} : ∀ (N p : Nat) (t : St), L - p < N → p ≤ L → Rg σ t p f → (∀ t', Rg σ t' (sk tx L p) f → Φ t') → wlX4_skipBlanks_5 Φ N (nI p) t := by
  have hL := h.2.2.1
  intro N
  induction N with
  | zero => intro p t h1; omega
  | succ N ih =>
    intro p t hN hp hg kk
    show wlX4_skipBlanks_5_body Φ (wlX4_skipBlanks_5 Φ N) (nI p) t
    unfold wlX4_skipBlanks_5_body
    have ht := TxC_Rg h hg
    rw [ht.1]
    refine pk_le L p (fun q => ?_) (fun q => pC_byteAt ht (by omega) (fun _ => ?_) (fun z => absurd z (by omega)))
    · rw [sk_f (by omega)] at kk
      exact kk t hg
    · have hx := h.2.2.2 p q
      refine pk_eq (tx p) 32 (fun z t5 e5 y6 e6 => ?_) (fun z => ?_)
      · rw [e6, nI_1]
        rw [nI_1] at e5
        rw [sk_t q z] at kk
        exact ih (p + 1) t5 (by omega) (by omega) (by rw [e5]; exact Rg_place hg _) kk
      · rw [sk_f (fun y => z y.2)] at kk
        exact kk t hg
theorem pC_skip {tx : Nat → Nat} {L : Nat} {σ t : St} (h : TxC tx L σ) {p : Nat} {f : Int32} (hp : p ≤ L) (hg : Rg σ t p f) {Φ : St → Prop} (kk : ∀ t', Rg σ t' (sk tx L p) f → Φ t') : wpX4_skipBlanks t Φ := by
  unfold wpX4_skipBlanks
  intro y1 e1
  rw [e1, hg.2.2.1]
  exact ⟨L - p + 1, lC_skip h (L - p + 1) p t (by omega) hp hg kk⟩
theorem pC_numbersOf {k : Nat} (hk : k < 2 ^ 31) {σ : St} {Φ : Int32 → St → Prop} (k1 : many k = 3 → Φ (-1) σ) (k2 : many k ≠ 3 → Φ (nI (many k)) σ) : wpX4_numbersOf (nI k) σ Φ := by
  unfold wpX4_numbersOf
  have L : ∀ j : Nat, j < 128 → (nI k = nI j) = (k = j) := fun j hj => eqI hk (by omega)
  rw [nI_lit 103, nI_lit 108, nI_lit 111, nI_lit 114, nI_lit 115, nI_lit 117, nI_lit 119, nI_lit 120, L 103 (by decide), L 108 (by decide), L 111 (by decide), L 114 (by decide), L 115 (by decide), L 117 (by decide), L 119 (by decide), L 120 (by decide)]
  refine ⟨fun e => ?_, fun e => ?_, fun e => ?_, fun e => ?_, fun e => ?_, fun e => ?_, fun e => ?_, fun e => ?_, fun e1 e2 e3 e4 e5 e6 e7 e8 => ?_⟩
  · subst e; exact k2 (by decide)
  · subst e; exact k2 (by decide)
  · subst e; exact k2 (by decide)
  · subst e; exact k2 (by decide)
  · subst e; exact k2 (by decide)
  · subst e; exact k2 (by decide)
  · subst e; exact k2 (by decide)
  · subst e; exact k2 (by decide)
  · refine k1 ?_
    unfold many
    rw [if_neg (by omega), if_neg (by omega), if_neg (by omega)]
theorem pC_numbersNo {σ : St} {Φ : Int32 → St → Prop} (k1 : Φ (-1) σ) : wpX4_numbersOf (-1) σ Φ := by
  unfold wpX4_numbersOf
  exact ⟨fun e => absurd e (by decide), fun e => absurd e (by decide), fun e => absurd e (by decide), fun e => absurd e (by decide), fun e => absurd e (by decide), fun e => absurd e (by decide), fun e => absurd e (by decide), fun e => absurd e (by decide), fun _ _ _ _ _ _ _ _ => k1⟩
theorem pC_isFigure {x : Nat} (hx : x < 2 ^ 31) {σ : St} {Φ : Int32 → St → Prop} (kk : Φ (b01 (48 ≤ x ∧ x ≤ 57)) σ) : wpX4_isFigure (nI x) σ Φ := by
  unfold wpX4_isFigure
  refine pk_lt x 48 (fun z => ?_) (fun z => pk_lt 57 x (fun z2 => ?_) (fun z2 => ?_))
  · rw [b01_f (by omega)] at kk
    exact kk
  · rw [b01_f (by omega)] at kk
    exact kk
  · rw [b01_t ⟨z, z2⟩] at kk
    exact kk
/-- the first three figures at most -/
def mn3 (k : Nat) : Nat := if k < 3 then k else 3
theorem lC_number {tx : Nat → Nat} {L : Nat} {σ : St} (h : TxC tx L σ) {q most : Nat} {un : Int32} (hq : q ≤ L) (hm : most < 1000) {Φ : Int32 → St → Prop} (k1 : goodN tx L q most → un ≠ nI (vl tx q (fgs tx L q)) → ∀ t, Rg σ t (q + fgs tx L q) (-1) → Φ (nI (vl tx q (fgs tx L q))) t) (k2 : ¬ (goodN tx L q most ∧ un ≠ nI (vl tx q (fgs tx L q))) → ∀ v t, Rg σ t (q + fgs tx L q) (nI q) → Φ v t) :
    ∀ (N k : Nat) (t : St), k ≤ fgs tx L q → fgs tx L q - k < N → Rg σ t (q + k) (-1) → wlX4_readNumber_28 Φ N (nI most) un (nI q) (nI (vl tx q (mn3 k))) (nI (q + k)) t := by
  have hL := h.2.2.1
  have hfl := fgs_le (tx := tx) hq
  intro N
  induction N with
  | zero => intro k t h1 h2; omega
  | succ N ih =>
    intro k t hk hN hg
    show wlX4_readNumber_28_body Φ (wlX4_readNumber_28 Φ N) (nI most) un (nI q) (nI (vl tx q (mn3 k))) (nI (q + k)) t
    unfold wlX4_readNumber_28_body
    have ht := TxC_Rg h hg
    have hm3 : mn3 k ≤ 3 ∧ mn3 k ≤ k := by
      unfold mn3
      by_cases z : k < 3
      · rw [if_pos z]; omega
      · rw [if_neg z]; omega
    have hv := vl_le (tx := tx) (L := L) (p := q) (mn3 k) (by omega)
    have hv3 : vl tx q (mn3 k) < 1000 := Nat.lt_of_lt_of_le hv (by
      rcases (show mn3 k = 0 ∨ mn3 k = 1 ∨ mn3 k = 2 ∨ mn3 k = 3 by omega) with e | e | e | e <;> rw [e] <;> decide)
    have out : k = fgs tx L q → wbX4_readNumber_89 Φ (nI most) un (nI q) (nI (vl tx q (mn3 k))) t := by
      intro ek
      unfold wbX4_readNumber_89 wbX4_readNumber_124 wbX4_readNumber_125
      intro y1 e1
      rw [hg.2.2.1, subI (by omega), show q + k - q = k by omega] at e1
      have hg2 : Rg σ t (q + fgs tx L q) (-1) := by rw [← ek]; exact hg
      have bad : ¬ (goodN tx L q most ∧ un ≠ nI (vl tx q (fgs tx L q))) → ∀ t2 : St, t2 = setI t 1858 (nI q) → Φ (nI (vl tx q (mn3 k))) t2 := by
        intro nb t2 e2
        rw [e2]
        exact k2 nb _ _ (Rg_fault hg2 _)
      rw [e1]
      refine pC_within (lo := 1) (hi := 3) (brB (fun z => ?_) (fun z => ?_))
      · rw [nI_lit 1, nI_lit 3, leI (by decide) (by omega), leI (by omega) (by decide)] at z
        refine ⟨fun _ => bad (fun w => ?_), fun w => absurd rfl w⟩
        have g1 := w.1.1
        have g2 := w.1.2.1
        omega
      · rw [nI_lit 1, nI_lit 3, leI (by decide) (by omega), leI (by omega) (by decide)] at z
        have em : mn3 k = fgs tx L q := by
          rw [← ek]
          unfold mn3
          by_cases y : k < 3
          · rw [if_pos y]
          · rw [if_neg y]; omega
        rw [em] at hv3 bad ⊢
        refine pk_lt most (vl tx q (fgs tx L q)) (fun y => ⟨fun _ => bad (fun w => ?_), fun w => absurd rfl w⟩) (fun y => ⟨fun y2 => ⟨fun _ => bad (fun w => w.2 y2.symm), fun w => absurd rfl w⟩, fun y2 => ⟨fun w => absurd w (by decide), fun _ => ?_⟩⟩)
        · have := w.1.2.2
          omega
        · exact k1 ⟨by omega, by omega, y⟩ (fun w => y2 w.symm) t hg2
    rw [ht.1]
    refine pk_le L (q + k) (fun z => out ?_) (fun z => pC_byteAt ht (by omega) (fun _ => ?_) (fun w => absurd w (by omega)))
    · by_cases y : k = fgs tx L q
      · exact y
      · have := (fgs_in (tx := tx) (L := L) (p := q) (j := k) (by omega)).1
        omega
    · have hx := h.2.2.2 _ z
      refine pC_isFigure (by omega) (brB (fun y => out ?_) (fun y => ?_))
      · by_cases w : k = fgs tx L q
        · exact w
        · exact absurd (fgs_in (tx := tx) (L := L) (p := q) (j := k) (by omega)).2 y
      · have hlt : k < fgs tx L q := by
          by_cases x : k = fgs tx L q
          · subst x
            exact absurd ⟨z, y⟩ (fgs_end tx L q)
          · omega
        rw [subI (by omega), show q + k - q = k by omega]
        unfold wbX4_readNumber_75
        refine pk_le 3 k (fun w t1 e1 y2 e2 => ?_) (fun w => pC_byteAt ht (by omega) (fun _ y10 e10 t1 e1 y2 e2 => ?_) (fun w2 => absurd w2 (by omega)))
        · rw [nI_1] at e1
          rw [e2, nI_1]
          have := ih (k + 1) t1 (by omega) (by omega) (by rw [e1]; exact Rg_place hg _)
          rw [show mn3 (k + 1) = mn3 k by unfold mn3; rw [if_neg (by omega), if_neg (by omega)]] at this
          exact this
        · rw [nI_1] at e1
          have e3 : mn3 k = k := if_pos w
          have e4 : mn3 (k + 1) = k + 1 := by
            unfold mn3
            by_cases x : k + 1 < 3
            · rw [if_pos x]
            · rw [if_neg x]; omega
          have := ih (k + 1) t1 (by omega) (by omega) (by rw [e1]; exact Rg_place hg _)
          rw [e4, show vl tx q (k + 1) = vl tx q k * 10 + tx (q + k) - 48 by show 10 * vl tx q k + (tx (q + k) - 48) = _; omega] at this
          rw [e3, nI_lit 10, mulI, addI, nI_lit 48, subI (by omega)] at e10
          rw [e10, e2, nI_1]
          exact this
theorem pC_number {tx : Nat → Nat} {L : Nat} {σ t : St} (h : TxC tx L σ) {p most : Nat} {un : Int32} (hp : p ≤ L) (hm : most < 1000) (hg : Rg σ t p (-1)) {Φ : Int32 → St → Prop} (k1 : goodN tx L (sk tx L p) most → un ≠ nI (vl tx (sk tx L p) (fgs tx L (sk tx L p))) → ∀ t, Rg σ t (sk tx L p + fgs tx L (sk tx L p)) (-1) → Φ (nI (vl tx (sk tx L p) (fgs tx L (sk tx L p)))) t) (k2 : ¬ (goodN tx L (sk tx L p) most ∧ un ≠ nI (vl tx (sk tx L p) (fgs tx L (sk tx L p)))) → ∀ v t, Rg σ t (sk tx L p + fgs tx L (sk tx L p)) (nI (sk tx L p)) → Φ v t) : wpX4_readNumber (nI most) un t Φ := by
  unfold wpX4_readNumber
  rw [hg.2.2.2]
  refine ⟨fun _ => pC_skip h hp hg (fun t2 h2 y3 e3 => ?_), fun w => absurd rfl w⟩
  rw [e3, h2.2.2.1]
  refine ⟨fgs tx L (sk tx L p) + 1, lC_number h (sk_le hp) hm k1 k2 (fgs tx L (sk tx L p) + 1) 0 t2 (Nat.zero_le _) (by omega) h2⟩
/-- an order is read, into the rows at m -/
def Rd2 (σ t : St) (m : Nat) : Prop := (∀ j, j ≠ 1856 → j ≠ 1857 → j ≠ 1858 → t.1 j = σ.1 j) ∧ (∀ b, b ≠ 53 → b ≠ 54 → b ≠ 55 → t.2 b = σ.2 b) ∧ (∀ b i, i ≠ m → t.2 b i = σ.2 b i)
/-- what follows on what was read -/
def KC (L : Nat) (σ : St) (m : Nat) (Φ : St → Prop) : RO → Prop
  | .inl f => ∀ t p, p ≤ L → Rd2 σ t m → t.1 1857 = nI p → t.1 1858 = nI f → Φ t
  | .inr (k, u, v, p) => ∀ t, Rd2 σ t m → t.1 1856 = nI (m + 1) → t.1 1857 = nI p → t.1 1858 = -1 → t.2 53 m = nI k → t.2 54 m = nI u → t.2 55 m = nI v → Φ t
theorem rd2_put {σ t t5 : St} {m p : Nat} {f x y z : Int32} (hg : Rg σ t p f) (e5 : t5 = setI (w2 (w2 (w2 t 53 m x) 54 m y) 55 m z) 1856 (nI (m + 1))) : Rd2 σ t5 m ∧ t5.1 1856 = nI (m + 1) ∧ t5.1 1857 = nI p ∧ t5.1 1858 = f ∧ t5.2 53 m = x ∧ t5.2 54 m = y ∧ t5.2 55 m = z := by
  subst e5
  refine ⟨⟨fun j h1 h2 h3 => ?_, fun b h1 h2 h3 => ?_, fun b i hi => ?_⟩, rfl, hg.2.2.1, hg.2.2.2, ?_, ?_, ?_⟩
  · rw [setI_1, if_neg h1]
    exact hg.2.1 j h2 h3
  · rw [setI_2, w2_ne _ _ _ h3, w2_ne _ _ _ h2, w2_ne _ _ _ h1, hg.1]
  · rw [setI_2, w2_rd, w2_rd, w2_rd, w2_rd, w2_rd, w2_rd, w2_rd, if_neg hi]
    rw [hg.1]
    by_cases q : b = 55
    · subst q
      rfl
    · rw [if_neg q]
      by_cases q : b = 54
      · subst q
        rw [if_pos rfl, if_neg hi]
        rfl
      · rw [if_neg q]
        by_cases q : b = 53
        · subst q
          rw [if_pos rfl, if_neg hi]
        · rw [if_neg q]
  · rw [setI_2, w2_ne _ _ _ (by decide), w2_ne _ _ _ (by decide), w2_at, if_pos rfl]
  · rw [setI_2, w2_ne _ _ _ (by decide), w2_at, if_pos rfl]
  · rw [setI_2, w2_at, if_pos rfl]
theorem pC_puts {σ t : St} {m p : Nat} {f x y z : Int32} (hm : m < 60) (hc : σ.1 1856 = nI m) (hg : Rg σ t p f) {Φ : St → Prop} (kk : ∀ t5, t5 = setI (w2 (w2 (w2 t 53 m x) 54 m y) 55 m z) 1856 (nI (m + 1)) → Φ t5) : wpX9_put 53 (t.1 1856) x t (fun t2 => wpX9_put 54 (t2.1 1856) y t2 (fun t3 => wpX9_put 55 (t3.1 1856) z t3 (fun t4 => (∀ t5 : St, t5 = setI t4 1856 ((t4.1 1856) + (1 : Int32)) → Φ t5)))) := by
  have hcl : cLen 53 = 60 ∧ cLen 54 = 60 ∧ cLen 55 = 60 := by decide
  have e0 : t.1 1856 = nI m := (hg.2.1 1856 (by decide) (by decide)).trans hc
  rw [e0]
  refine pC_put (by rw [hcl.1]; exact hm) ?_
  rw [show (w2 t 53 m x).1 1856 = nI m from e0]
  refine pC_put (by rw [hcl.2.1]; exact hm) ?_
  rw [show (w2 (w2 t 53 m x) 54 m y).1 1856 = nI m from e0]
  refine pC_put (by rw [hcl.2.2]; exact hm) ?_
  rw [show (w2 (w2 (w2 t 53 m x) 54 m y) 55 m z).1 1856 = nI m from e0, nI_1]
  exact kk
/-- the order's end -/
theorem pC_rdc {tx : Nat → Nat} {L : Nat} {σ t : St} {m p k u v : Nat} (h : TxC tx L σ) (hm : m < 60) (hc : σ.1 1856 = nI m) (hp : p ≤ L) (hg : Rg σ t p (-1)) {Φ : St → Prop} (kk : KC L σ m Φ (rdc tx L k u v p)) : wbX4_readOrder_97 Φ (nI k) (nI u) (nI v) t := by
  unfold wbX4_readOrder_97 wpX4_readSemicolon
  have hL := h.2.2.1
  have hq := sk_le (tx := tx) hp
  rw [hg.2.2.2]
  refine ⟨fun _ => pC_skip h hp hg (fun t2 h2 => ?_), fun w => absurd rfl w⟩
  rw [h2.2.2.1]
  unfold rdc at kk
  refine pC_byteAt (TxC_Rg h h2) (by omega) (fun z => ?_) (fun z => ?_)
  · have hx := h.2.2.2 _ z
    refine pk_eq (tx (sk tx L p)) 59 (fun w t7 e7 => ?_) (fun w t6 e6 => ?_)
    · rw [if_pos ⟨z, w⟩] at kk
      have hg7 : Rg σ t7 (sk tx L p + 1) (-1) := by rw [e7, h2.2.2.1, nI_1]; exact Rg_place h2 _
      refine pC_puts hm hc hg7 (fun t5 e5 => ?_)
      obtain ⟨r1, r2, r3, r4, r5, r6, r7⟩ := rd2_put hg7 e5
      exact kk t5 r1 r2 r3 r4 r5 r6 r7
    · rw [if_neg (fun y => w y.2)] at kk
      have hg6 : Rg σ t6 (sk tx L p) (nI (sk tx L p)) := by rw [e6, h2.2.2.1]; exact Rg_fault h2 _
      refine pC_puts hm hc hg6 (fun t5 e5 => ?_)
      obtain ⟨r1, r2, r3, r4, -⟩ := rd2_put hg6 e5
      exact kk t5 _ hq r1 r3 r4
  · refine ⟨fun w => absurd w (by decide), fun _ t6 e6 => ?_⟩
    rw [if_neg (by omega)] at kk
    have hg6 : Rg σ t6 (sk tx L p) (nI (sk tx L p)) := by rw [e6, h2.2.2.1]; exact Rg_fault h2 _
    refine pC_puts hm hc hg6 (fun t5 e5 => ?_)
    obtain ⟨r1, r2, r3, r4, -⟩ := rd2_put hg6 e5
    exact kk t5 _ hq r1 r3 r4
/-- the order's end behind a fault -/
theorem pC_rdf {L : Nat} {σ t : St} {m p f : Nat} (hf : f < 2 ^ 31) (hm : m < 60) (hc : σ.1 1856 = nI m) (hp : p ≤ L) (hg : Rg σ t p (nI f)) {Φ : St → Prop} {x y z : Int32} (kk : KC L σ m Φ (.inl f)) : wbX4_readOrder_97 Φ x y z t := by
  unfold wbX4_readOrder_97 wpX4_readSemicolon
  rw [hg.2.2.2, neI1 hf]
  refine ⟨fun w => w.elim, fun _ => pC_puts hm hc hg (fun t5 e5 => ?_)⟩
  obtain ⟨r1, r2, r3, r4, -⟩ := rd2_put hg e5
  exact kk t5 _ hp r1 r3 r4
theorem pC_rdb {tx : Nat → Nat} {L n : Nat} {σ t : St} {m p k u : Nat} (h : TxC tx L σ) (hn5 : 1 ≤ n ∧ n ≤ 5) (hk : k < 128) (hmk : many k ≠ 3) (hu : u < 2 ^ 31) (hm : m < 60) (hc : σ.1 1856 = nI m) (hp : p ≤ L) (hg : Rg σ t p (-1)) {Φ : St → Prop} (kk : KC L σ m Φ (rdb tx L n k u p)) : wbX4_readOrder_63 Φ (nI n) (nI k) (nI (many k)) (nI u) t := by
  unfold wbX4_readOrder_63
  have hL := h.2.2.1
  have hm4 : many k < 4 := by
    unfold many
    by_cases q1 : k = 119 ∨ k = 115 ∨ k = 103
    · rw [if_pos q1]; decide
    · rw [if_neg q1]
      by_cases q2 : k = 108 ∨ k = 120 ∨ k = 111
      · rw [if_pos q2]; decide
      · rw [if_neg q2]
        by_cases q3 : k = 114 ∨ k = 117
        · rw [if_pos q3]; decide
        · rw [if_neg q3]; decide
  unfold rdb at kk
  refine pk_le (many k) 1 (fun z => ?_) (fun z => ?_)
  · rw [if_neg (by omega)] at kk
    exact pC_rdc (v := 0) h hm hc hp hg kk
  · rw [if_pos (by omega)] at kk
    have hq := sk_le (tx := tx) hp
    have hfl := fgs_le (tx := tx) hq
    have hms : mostS k n < 1000 := by
      unfold mostS
      by_cases q1 : k = 119
      · rw [if_pos q1]; decide
      · rw [if_neg q1]
        by_cases q2 : k = 103
        · rw [if_pos q2]; decide
        · rw [if_neg q2]; omega
    have core : ∀ un : Int32, (k = 115 → un = nI u) → (k ≠ 115 → un = -1) → wbX4_readOrder_90 Φ (nI k) (nI u) (nI (mostS k n)) un t := by
      intro un un1 un2
      unfold wbX4_readOrder_90
      refine pC_number h hp hms hg (fun g1 g2 t2 h2 => ?_) (fun g v t2 h2 => ?_)
      · have hv := g1.2.2
        rw [if_pos ⟨g1, fun w => g2 (by rw [un1 w.1, w.2])⟩] at kk
        exact pC_rdc h hm hc hfl h2 kk
      · rw [if_neg (fun w => g ⟨w.1, fun y => ?_⟩)] at kk
        · exact pC_rdf (by omega) hm hc hfl h2 kk
        · have hv := w.1.2.2
          by_cases e : k = 115
          · rw [un1 e, eqI hu (by omega)] at y
            exact w.2 ⟨e, y.symm⟩
          · rw [un2 e] at y
            have := neI1 (a := vl tx (sk tx L p) (fgs tx L (sk tx L p))) (by omega)
            rw [y.symm] at this
            simp at this
    unfold wpX4_mostSecond
    have e50 : nI n - (1 : Int32) = nI (n - 1) := by rw [nI_lit 1, subI (by omega)]
    rw [e50]
    have fin : ∀ M : Nat, M = mostS k n → ((nI k = (115 : Int32) → wbX4_readOrder_90 Φ (nI k) (nI u) (nI M) (nI u) t) ∧ (¬ nI k = (115 : Int32) → wbX4_readOrder_90 Φ (nI k) (nI u) (nI M) (-1 : Int32) t)) := by
      intro M eM
      rw [eM]
      exact pk_eq k 115 (fun e => core _ (fun _ => rfl) (fun w => absurd e w)) (fun e => core _ (fun w => absurd w e) (fun _ => rfl))
    refine pk_eq k 119 (fun e => fin 999 ?_) (fun e => pk_eq k 103 (fun e2 => fin 99 ?_) (fun e2 => fin (n - 1) ?_))
    · unfold mostS; rw [if_pos e]
    · unfold mostS; rw [if_neg e, if_pos e2]
    · unfold mostS; rw [if_neg e, if_neg e2]
