theorem pC_readOrder {tx : Nat → Nat} {L n : Nat} {σ : St} {m p : Nat} (h : TxC tx L σ) (hn5 : 1 ≤ n ∧ n ≤ 5) (hm : m < 60) (hc : σ.1 1856 = nI m) (hp : p ≤ L) (e57 : σ.1 1857 = nI p) (e58 : σ.1 1858 = -1) {Φ : St → Prop} (kk : KC L σ m Φ (rdO tx L n p)) : wpX4_readOrder (nI n) σ Φ := by
  unfold wpX4_readOrder
  have hL := h.2.2.1
  have hq := sk_le (tx := tx) hp
  unfold rdO at kk
  refine pC_skip h hp ⟨rfl, fun _ _ _ => rfl, e57, e58⟩ (fun t1 h1 => ?_)
  rw [h1.2.2.1]
  have noK : KC L σ m Φ (.inl (sk tx L p)) → ∀ t11 : St, t11 = setI t1 1858 (t1.1 1857) → Φ t11 := by
    intro k1 t11 e11
    have hg : Rg σ t11 (sk tx L p) (nI (sk tx L p)) := by rw [e11, h1.2.2.1]; exact Rg_fault h1 _
    exact k1 t11 _ hq ⟨fun j j1 j2 j3 => hg.2.1 j j2 j3, fun b _ _ _ => by rw [hg.1], fun b i _ => by rw [hg.1]⟩ hg.2.2.1 hg.2.2.2
  refine pC_byteAt (TxC_Rg h h1) (by omega) (fun z => ?_) (fun z => ?_)
  · have hx := h.2.2.2 _ z
    refine pC_numbersOf (by omega) (fun mk => ?_) (fun mk => ?_)
    · rw [if_neg (fun y => y.2 mk)] at kk
      exact ⟨fun _ => noK kk, fun w => absurd rfl w⟩
    · rw [if_pos ⟨z, mk⟩] at kk
      have hm4 : many (tx (sk tx L p)) < 4 := by
        unfold many
        by_cases q1 : tx (sk tx L p) = 119 ∨ tx (sk tx L p) = 115 ∨ tx (sk tx L p) = 103
        · rw [if_pos q1]; decide
        · rw [if_neg q1]
          by_cases q2 : tx (sk tx L p) = 108 ∨ tx (sk tx L p) = 120 ∨ tx (sk tx L p) = 111
          · rw [if_pos q2]; decide
          · rw [if_neg q2]
            by_cases q3 : tx (sk tx L p) = 114 ∨ tx (sk tx L p) = 117
            · rw [if_pos q3]; decide
            · rw [if_neg q3]; decide
      refine ⟨fun w => ?_, fun _ t7 e7 => ?_⟩
      · rw [neI1 (by omega)] at w
        exact w.elim
      · rw [h1.2.2.1, nI_1] at e7
        have h7 : Rg σ t7 (sk tx L p + 1) (-1) := by rw [e7]; exact Rg_place h1 _
        unfold rda at kk
        refine pk_le (many (tx (sk tx L p))) 0 (fun y => ?_) (fun y => ?_)
        · rw [if_neg (by omega)] at kk
          exact pC_rdb (u := 0) (p := sk tx L p + 1) h hn5 hx mk (by decide) hm hc z h7 kk
        · rw [if_pos (by omega)] at kk
          have e50 : nI n - (1 : Int32) = nI (n - 1) := by rw [nI_lit 1, subI (by omega)]
          have hq2 := sk_le (tx := tx) (show sk tx L p + 1 ≤ L from z)
          have hfl := fgs_le (tx := tx) hq2
          rw [e50]
          refine pC_number (p := sk tx L p + 1) h z (by omega) h7 (fun g1 g2 t2 h2 => ?_) (fun g v t2 h2 => ?_)
          · rw [if_pos g1] at kk
            have hv := g1.2.2
            exact pC_rdb h hn5 hx mk (by omega) hm hc hfl h2 kk
          · rw [if_neg (fun w => g ⟨w, fun x => ?_⟩)] at kk
            · -- a fault in the first number: what is read further does not matter
              unfold wbX4_readOrder_63
              refine pk_le (many (tx (sk tx L p))) 1 (fun y2 => pC_rdf (by omega) hm hc hfl h2 kk) (fun y2 => ?_)
              have rest : ∀ M un : Int32, wbX4_readOrder_90 Φ (nI (tx (sk tx L p))) v M un t2 := by
                intro M un
                unfold wbX4_readOrder_90 wpX4_readNumber
                rw [h2.2.2.2, neI1 (by omega)]
                exact ⟨fun w => w.elim, fun _ => pC_rdf (by omega) hm hc hfl h2 kk⟩
              unfold wpX4_mostSecond
              exact ⟨fun _ => ⟨fun _ => rest _ _, fun _ => rest _ _⟩, fun _ => ⟨fun _ => ⟨fun _ => rest _ _, fun _ => rest _ _⟩, fun _ => ⟨fun _ => rest _ _, fun _ => rest _ _⟩⟩⟩
            · have hv := w.2.2
              have := neI1 (a := vl tx (sk tx L (sk tx L p + 1)) (fgs tx L (sk tx L (sk tx L p + 1)))) (by omega)
              rw [x.symm] at this
              simp at this
  · rw [if_neg (by omega)] at kk
    exact pC_numbersNo ⟨fun _ => noK kk, fun w => absurd rfl w⟩
/-- m orders lie in the rows -/
def RA (tx : Nat → Nat) (L n : Nat) (σ t : St) (m : Nat) : Prop := (∀ j, j ≠ 1856 → j ≠ 1857 → j ≠ 1858 → t.1 j = σ.1 j) ∧ (∀ b, b ≠ 53 → b ≠ 54 → b ≠ 55 → t.2 b = σ.2 b) ∧ t.1 1856 = nI m ∧ (∀ i k u v p, i < m → rdO tx L n (pos tx L n i) = .inr (k, u, v, p) → t.2 53 i = nI k ∧ t.2 54 i = nI u ∧ t.2 55 i = nI v)
/-- only the reader has changed -/
def Rd3 (σ t : St) : Prop := (∀ j, j ≠ 1856 → j ≠ 1857 → j ≠ 1858 → t.1 j = σ.1 j) ∧ (∀ b, b ≠ 53 → b ≠ 54 → b ≠ 55 → t.2 b = σ.2 b)
theorem lC_readAll {tx : Nat → Nat} {L n : Nat} {σ : St} (h : TxC tx L σ) (hn5 : 1 ≤ n ∧ n ≤ 5) {Φ : Int32 → St → Prop} (kf : ∀ m f, Flt tx L n m f → ∀ t, Rd3 σ t → Φ (nI f) t) (ks : ∀ M, FinO tx L n M → ∀ t, RA tx L n σ t (M + 1) → Φ (-1) t) :
    ∀ (N m : Nat) (t : St), Go tx L n m → L - pos tx L n m < N → (m = 0 ∨ pos tx L n m < L) → RA tx L n σ t m → t.1 1857 = nI (pos tx L n m) → t.1 1858 = -1 → wlX4_readAll_17 Φ N (nI n) (nI m) t := by
  have hL := h.2.2.1
  intro N
  induction N with
  | zero => intro m t h1 h2; omega
  | succ N ih =>
    intro m t hg hN hm0 hR e57 e58
    have hpl : pos tx L n m ≤ L := pos_le m
    have h2m := go_2 m hg
    have hm60 : m < 60 := by omega
    show wlX4_readAll_17_body Φ (wlX4_readAll_17 Φ N) (nI n) (nI m) t
    unfold wlX4_readAll_17_body wbX4_readAll_62
    refine pk_le 60 m (fun q => absurd q (by omega)) (fun _ => ?_)
    have ht : TxC tx L t := by
      refine ⟨?_, ?_, h.2.2⟩
      · rw [hR.1 1824 (by decide) (by decide) (by decide)]
        exact h.1
      · rw [hR.2.1 52 (by decide) (by decide) (by decide)]
        exact h.2.1
    refine pC_readOrder ht hn5 hm60 hR.2.2.1 hpl e57 e58 ?_
    cases e : rdO tx L n (pos tx L n m) with
    | inl f =>
      intro t2 p' hp' hd e57' e58'
      have hf := (rdO_ok hpl).1 f e
      have ht2 : TxC tx L t2 := by
        refine ⟨?_, ?_, h.2.2⟩
        · rw [hd.1 1824 (by decide) (by decide) (by decide)]
          exact ht.1
        · rw [hd.2.1 52 (by decide) (by decide) (by decide)]
          exact ht.2.1
      refine pC_skip ht2 hp' ⟨rfl, fun _ _ _ => rfl, e57', e58'⟩ (fun t3 h3 => ?_)
      rw [h3.2.2.2, neI1 (by omega)]
      refine ⟨fun w => w.elim, fun _ => kf m f ⟨hg, e⟩ t3 ⟨fun j j1 j2 j3 => ?_, fun b b1 b2 b3 => ?_⟩⟩
      · rw [h3.2.1 j j2 j3, hd.1 j j1 j2 j3]
        exact hR.1 j j1 j2 j3
      · rw [h3.1, hd.2.1 b b1 b2 b3]
        exact hR.2.1 b b1 b2 b3
    | inr q =>
      obtain ⟨k, u, v, p⟩ := q
      intro t2 hd e56' e57' e58' r53 r54 r55
      have o := (rdO_ok hpl).2 k u v p e
      have ht2 : TxC tx L t2 := by
        refine ⟨?_, ?_, h.2.2⟩
        · rw [hd.1 1824 (by decide) (by decide) (by decide)]
          exact ht.1
        · rw [hd.2.1 52 (by decide) (by decide) (by decide)]
          exact ht.2.1
      refine pC_skip ht2 o.2.2.1 ⟨rfl, fun _ _ _ => rfl, e57', e58'⟩ (fun t3 h3 => ?_)
      have hp1 : pos tx L n (m + 1) = sk tx L p := pos_s e
      have hO : OrdAt tx L n m := ⟨k, u, v, p, e⟩
      have hp2 := pos_2 hO
      have hsl := sk_le (tx := tx) o.2.2.1
      have hR3 : RA tx L n σ t3 (m + 1) := by
        refine ⟨fun j j1 j2 j3 => ?_, fun b b1 b2 b3 => ?_, ?_, fun i k' u' v' p' hi e' => ?_⟩
        · rw [h3.2.1 j j2 j3, hd.1 j j1 j2 j3]
          exact hR.1 j j1 j2 j3
        · rw [h3.1, hd.2.1 b b1 b2 b3]
          exact hR.2.1 b b1 b2 b3
        · rw [h3.2.1 1856 (by decide) (by decide)]
          exact e56'
        · rw [h3.1]
          by_cases w : i = m
          · subst w
            rw [e] at e'
            injection e' with e'
            injection e' with z1 e'
            injection e' with z2 e'
            injection e' with z3 z4
            subst z1 z2 z3 z4
            exact ⟨r53, r54, r55⟩
          · rw [hd.2.2 53 i w, hd.2.2 54 i w, hd.2.2 55 i w]
            exact hR.2.2.2 i k' u' v' p' (by omega) e'
      rw [h3.2.2.2, h3.2.2.1, (TxC_Rg ht2 h3).1]
      refine ⟨fun _ => pk_lt (sk tx L p) L (fun w y6 e6 => ?_) (fun w => ks m ⟨hg, hO, by rw [hp1]; exact w⟩ t3 hR3), fun w => absurd rfl w⟩
      rw [e6, nI_1]
      have hl : pos tx L n (m + 1) < L := by rw [hp1]; exact w
      exact ih (m + 1) t3 (go_s hg hO hl) (by omega) (Or.inr hl) hR3 (by rw [hp1]; exact h3.2.2.1) h3.2.2.2
theorem pC_readAll {tx : Nat → Nat} {L n : Nat} {σ : St} (h : TxC tx L σ) (hn5 : 1 ≤ n ∧ n ≤ 5) {Φ : Int32 → St → Prop} (kf : ∀ m f, Flt tx L n m f → ∀ t, Rd3 σ t → Φ (nI f) t) (ks : ∀ M, FinO tx L n M → ∀ t, RA tx L n σ t (M + 1) → Φ (-1) t) : wpX4_readAll (nI n) σ Φ := by
  unfold wpX4_readAll
  intro t1 e1 t2 e2 t3 e3
  refine ⟨L + 1, lC_readAll h hn5 kf ks (L + 1) 0 t3 (fun i hi => absurd hi (Nat.not_lt_zero i)) (by show L - 0 < L + 1; omega) (Or.inl rfl) ⟨fun j j1 j2 j3 => ?_, fun b _ _ _ => ?_, ?_, fun i _ _ _ _ hi => absurd hi (Nat.not_lt_zero i)⟩ ?_ ?_⟩
  · rw [e3, setI_1, if_neg j3, e2, setI_1, if_neg j2, e1, setI_1, if_neg j1]
  · rw [e3, e2, e1]; rfl
  · rw [e3, e2, e1]; rfl
  · rw [e3, e2]; rfl
  · rw [e3]; rfl
/-- the second number is small -/
theorem rdc_v {tx : Nat → Nat} {L k u v p k' u' v' p' : Nat} (h : rdc tx L k u v p = .inr (k', u', v', p')) : v' = v := by
  unfold rdc at h
  by_cases q : sk tx L p < L ∧ tx (sk tx L p) = 59
  · rw [if_pos q] at h
    injection h with h
    injection h with _ h
    injection h with _ h
    injection h with h _
    exact h.symm
  · rw [if_neg q] at h
    cases h
theorem rdb_v {tx : Nat → Nat} {L n k u p k' u' v' p' : Nat} (h : rdb tx L n k u p = .inr (k', u', v', p')) : v' < 1000 := by
  unfold rdb at h
  by_cases m : many k = 2
  · rw [if_pos m] at h
    by_cases q : goodN tx L (sk tx L p) (mostS k n) ∧ ¬ (k = 115 ∧ vl tx (sk tx L p) (fgs tx L (sk tx L p)) = u)
    · rw [if_pos q] at h
      rw [rdc_v h]
      have h1 := q.1.2.1
      have h2 := vl_le (tx := tx) (L := L) (p := sk tx L p) (fgs tx L (sk tx L p)) (Nat.le_refl _)
      refine Nat.lt_of_lt_of_le h2 ?_
      rcases (show fgs tx L (sk tx L p) = 0 ∨ fgs tx L (sk tx L p) = 1 ∨ fgs tx L (sk tx L p) = 2 ∨ fgs tx L (sk tx L p) = 3 by omega) with e | e | e | e <;> rw [e] <;> decide
    · rw [if_neg q] at h
      cases h
  · rw [if_neg m] at h
    rw [rdc_v h]
    decide
theorem rd_v {tx : Nat → Nat} {L n p k u v p' : Nat} (h : rdO tx L n p = .inr (k, u, v, p')) : v < 1000 := by
  unfold rdO at h
  by_cases q : sk tx L p < L ∧ many (tx (sk tx L p)) ≠ 3
  · rw [if_pos q] at h
    unfold rda at h
    by_cases m : 1 ≤ many (tx (sk tx L p))
    · rw [if_pos m] at h
      by_cases g : goodN tx L (sk tx L (sk tx L p + 1)) (n - 1)
      · rw [if_pos g] at h
        exact rdb_v h
      · rw [if_neg g] at h
        cases h
    · rw [if_neg m] at h
      exact rdb_v h
  · rw [if_neg q] at h
    cases h
/-- the rows of orders as they lie -/
def ntI (x : Int32) : Nat := x.toBitVec.toNat
theorem ntI_nI (x : Int32) : nI (ntI x) = x := by
  apply Int32.toBitVec_inj.mp
  show BitVec.ofNat 32 x.toBitVec.toNat = x.toBitVec
  exact BitVec.ofNat_toNat _ _ |>.trans (by simp)
theorem ntI_of {n : Nat} (h : n < 2 ^ 32) : ntI (nI n) = n := pk_tn h
def ordA (a : AS) (t : St) : AS := sT (sT (sT (sT a 29 (fun _ _ _ => ntI (t.1 1856))) 30 (fun i _ _ => ntI (t.2 53 i))) 31 (fun i _ _ => ntI (t.2 54 i))) 32 (fun i _ _ => ntI (t.2 55 i))
theorem ord_tag {a : AS} {t : St} {u : Nat} (h : u < 29) : ordA a t u = a u := by
  unfold ordA
  rw [sT_ne (by omega), sT_ne (by omega), sT_ne (by omega), sT_ne (by omega)]
theorem inv_ord {a : AS} (h : Inv a) (t : St) : Inv (ordA a t) := by
  obtain ⟨hb, hs, hi, ⟨j1, j2, j3, j4, j5, j6, j7⟩⟩ := h
  exact ⟨hb, hs, hi, ⟨j1, j2, j3, j4, j5, j6, j7_of (a := a) (b := ordA a t) rfl j7⟩⟩
theorem RepM_ord {a : AS} {μ : St} (h : RepM a μ) (t : St) : RepM (ordA a t) μ := h
theorem RepC_ord {a : AS} {σ t : St} (h : RepC a σ) (hd : Rd3 σ t) : RepC (ordA a t) t :=
  repC_oth h (fun j hj => hd.1 j (by omega) (by omega) (by omega)) (fun j h1 h2 h3 h4 => hd.2 j (by omega) (by omega) (by omega)) (fun u hu => ord_tag (by omega))
    (C4_fr h.2.2.2.1 (hd.1 _ (by decide) (by decide) (by decide)) (fun j hj => hd.2 j (by omega) (by omega) (by omega)) (fun u h1 h2 => ord_tag (by omega)))
    (C5_fr h.2.2.2.2.1 (hd.1 _ (by decide) (by decide) (by decide)) (hd.1 _ (by decide) (by decide) (by decide)) (fun j h1 h2 => hd.2 j (by omega) (by omega) (by omega)) (fun u h1 h2 => ord_tag (by omega)))
    (C6_fr h.2.2.2.2.2.1 (fun j hj => hd.1 j (by omega) (by omega) (by omega)) (fun u h1 h2 => ord_tag (by omega)))
    (C7_fr h.2.2.2.2.2.2.1 (hd.1 _ (by decide) (by decide) (by decide)) (hd.2 52 (by decide) (by decide) (by decide)) (fun u h1 h2 => ord_tag (by omega)))
    ⟨(ntI_nI _).symm, fun i _ => (ntI_nI _).symm, fun i _ => (ntI_nI _).symm, fun i _ => (ntI_nI _).symm⟩
/-- the rows of orders stay -/
def Kpo (a b : AS) : Prop := b 29 = a 29 ∧ b 30 = a 30 ∧ b 31 = a 31 ∧ b 32 = a 32
theorem kpo_0 (a : AS) : Kpo a a := ⟨rfl, rfl, rfl, rfl⟩
theorem kpo_t {a b c : AS} (h : Kpo a b) (g : Kpo b c) : Kpo a c := ⟨g.1.trans h.1, g.2.1.trans h.2.1, g.2.2.1.trans h.2.2.1, g.2.2.2.trans h.2.2.2⟩
theorem kpo_loss (a : AS) (c : Nat) : Kpo a (lossA a c) := ⟨loss_tag a c 29 (by decide) (by decide) (by decide) (by decide) (by decide) (by decide), loss_tag a c 30 (by decide) (by decide) (by decide) (by decide) (by decide) (by decide), loss_tag a c 31 (by decide) (by decide) (by decide) (by decide) (by decide) (by decide), loss_tag a c 32 (by decide) (by decide) (by decide) (by decide) (by decide) (by decide)⟩
theorem kpo_cutB (a : AS) : ∀ b, Kpo a (cutB a b) := by
  intro b
  induction b with
  | zero => exact kpo_0 a
  | succ b ih => exact kpo_t ih ⟨rfl, rfl, rfl, rfl⟩
theorem kpo_rls {b : AS} : ∀ (r : Nat) (a : AS), Rls r a b → Kpo a b := by
  intro r
  induction r with
  | zero =>
    intro a h
    rw [← h.1]
    exact kpo_0 a
  | succ r ih =>
    intro a h
    obtain ⟨k, hk, h2⟩ := h
    exact kpo_t (b := relA a k) ⟨rfl, rfl, rfl, rfl⟩ (ih _ h2)
theorem do_kpo {k u v : Nat} {a b : AS} {ok : Nat} (h : DoR k u v a b ok) : Kpo a b := by
  rcases h with ⟨e, r, h, rfl⟩ | ⟨e, r, h, rfl⟩ | ⟨e, r, h, rfl⟩ | ⟨e, rfl, rfl⟩ | ⟨e, r, h, rfl⟩ | ⟨e, r, h, rfl⟩ | ⟨e, ⟨r, h⟩, rfl⟩ | ⟨e, rfl, rfl⟩
  · rcases h with ⟨-, rfl, -⟩ | ⟨-, rfl, -⟩
    · exact kpo_0 _
    · exact ⟨rfl, rfl, rfl, rfl⟩
  · rcases h with ⟨-, rfl, -⟩ | ⟨-, rfl, -⟩
    · exact kpo_0 _
    · exact ⟨rfl, rfl, rfl, rfl⟩
  · rcases h with ⟨-, rfl, -⟩ | ⟨m, -, ⟨-, rfl, -⟩ | ⟨-, -, rfl, -⟩ | ⟨-, -, rfl, -⟩⟩
    · exact kpo_0 _
    · exact ⟨rfl, rfl, rfl, rfl⟩
    · exact kpo_0 _
    · exact ⟨rfl, rfl, rfl, rfl⟩
  · exact ⟨rfl, rfl, rfl, rfl⟩
  · rcases h with ⟨-, rfl, -⟩ | ⟨-, rfl, -⟩
    · exact kpo_0 _
    · exact kpo_loss _ _
  · rcases h with ⟨-, rfl, -⟩ | ⟨-, rfl, -⟩
    · exact kpo_0 _
    · exact ⟨rfl, rfl, rfl, rfl⟩
  · exact kpo_rls r a h
  · exact kpo_cutB a _
theorem dn_kpo {a : AS} {tx : Nat → Nat} {L n : Nat} : ∀ (m : Nat) (b : AS) (c : Nat), Dn a tx L n m b c → Kpo a b := by
  intro m
  induction m with
  | zero =>
    intro b c h
    rw [h.1]
    exact ⟨rfl, rfl, rfl, rfl⟩
  | succ m ih =>
    intro b c h
    obtain ⟨b', c', k, u, v, p, b'', ok, q1, q2, q3, q4, q5⟩ := h
    have h1 := ih _ _ q1
    have h2 := do_kpo q3
    rw [q4]
    exact ⟨h2.1.trans h1.1, h2.2.1.trans h1.2.1, h2.2.2.1.trans h1.2.2.1, h2.2.2.2.trans h1.2.2.2⟩
/-- the orders are done, one after another -/
theorem lC_does {a : AS} {tx : Nat → Nat} {L : Nat} (hI : Inv a) (eL : L = a 26 0 0 0) {M : Nat} (hF : FinO tx L (nA a) M) (hM : M < 60) (oc : ocn a = M + 1) (oo : ∀ i k u v p, i < M + 1 → rdO tx L (nA a) (pos tx L (nA a) i) = .inr (k, u, v, p) → okd a i = k ∧ of1 a i = u ∧ of2 a i = v) {Φ : Int32 → St → Prop} (ks : ∀ b c, Dn a tx L (nA a) (M + 1) b c → ∀ t, RepC b t → Φ (nI c) t) :
    ∀ (N m : Nat) (b : AS) (c : Nat) (t : St), m ≤ M + 1 → M + 1 - m < N → Dn a tx L (nA a) m b c → RepC b t → wlX9_does_33 Φ N (nI c) (nI m) t := by
  have hn := hI.1.1
  have hL := hI.1.2.2.2.2.2.2.2.2
  have hcl : cLen 53 = 60 ∧ cLen 54 = 60 ∧ cLen 55 = 60 := by decide
  intro N
  induction N with
  | zero => intro m b c t h1 h2; omega
  | succ N ih =>
    intro m b c t hm hN hD h
    obtain ⟨⟨kn, k26, k27⟩, kp, kc⟩ := dn_kpt m b c hD
    obtain ⟨o29, o30, o31, o32⟩ := dn_kpo m b c hD
    have hIb := dn_inv hI m b c hD
    show wlX9_does_33_body Φ (wlX9_does_33 Φ N) (nI c) (nI m) t
    unfold wlX9_does_33_body wbX9_does_97
    obtain ⟨c0, c1, c2, c3⟩ := h.2.2.2.2.2.2.2
    have e0 : t.1 1856 = nI (M + 1) := by
      rw [c0, ← oc]
      show nI (b 29 0 0 0) = _
      rw [o29]
    rw [e0]
    refine pk_le (M + 1) m (fun q => ?_) (fun q => ?_)
    · have e : m = M + 1 := by omega
      subst e
      exact ks b c hD t h
    · have hpl : pos tx L (nA a) m ≤ L := pos_le m
      have hO : OrdAt tx L (nA a) m := by
        by_cases w : m = M
        · rw [w]; exact hF.2.1
        · exact (hF.1 m (by omega)).1
      obtain ⟨k, u, v, p, e⟩ := hO
      have o := (rdO_ok hpl).2 k u v p e
      have hk : k < 128 := by
        refine Classical.byContradiction (fun z => o.1 ?_)
        unfold many
        rw [if_neg (by omega), if_neg (by omega), if_neg (by omega)]
      obtain ⟨q1, q2, q3⟩ := oo m k u v p q e
      refine pC_at (by rw [hcl.1]; omega) (pC_at (by rw [hcl.2.1]; omega) (pC_at (by rw [hcl.2.2]; omega) ?_))
      have v53 : t.2 53 m = nI k := by
        rw [c1 m (by omega), ← q1]
        show nI (b 30 m 0 0) = _
        rw [o30]
      have v54 : t.2 54 m = nI u := by
        rw [c2 m (by omega), ← q2]
        show nI (b 31 m 0 0) = _
        rw [o31]
      have v55 : t.2 55 m = nI v := by
        rw [c3 m (by omega), ← q3]
        show nI (b 32 m 0 0) = _
        rw [o32]
      rw [v53, v54, v55]
      have o4 := o.2.2.2.1
      refine pC_follow (inv_plc hIb p) (RepC_plc h p) hk o.1 (show u < nA b by omega) (fun z => by show v ≤ mostS k (nA b); rw [kn]; exact o.2.2.2.2 z) (fun b2 r t2 hd ht2 => pC_isDone ?_)
      have rest := ih (m + 1) (plcA b2 (pos tx L (nA a) (m + 1))) (c + dnN r) t2 (by omega) (by omega) ⟨b, c, k, u, v, p, b2, dnN r, hD, e, hd, rfl, rfl⟩ (RepC_plc ht2 _)
      obtain ⟨-, ok1⟩ := do_kpt hd
      rcases (show dnN r = 0 ∨ dnN r = 1 by omega) with z | z
      · rw [z] at rest ⊢
        refine ⟨fun _ y1 e1 => ?_, fun w => absurd rfl w⟩
        rw [e1, nI_1]
        exact rest
      · rw [z] at rest ⊢
        refine ⟨fun w => absurd w (by decide), fun _ y13 e13 y1 e1 => ?_⟩
        rw [e13, e1, nI_1, nI_1]
        exact rest
theorem pC_does {a : AS} {σ : St} (hI : Inv a) (h : RepC a σ) {tx : Nat → Nat} {L : Nat} (etx : tx = fun i => a 27 i 0 0) (eL : L = a 26 0 0 0) {Φ : Int32 → St → Prop} (kf : ∀ m f t, Flt tx L (nA a) m f → RepC (ordA a t) t → Φ ((-10) - nI f) t) (ks : ∀ M b c t0, FinO tx L (nA a) M → Dn (ordA a t0) tx L (nA a) (M + 1) b c → ∀ t, RepC b t → Φ (nI c) t) : wpX9_does σ Φ := by
  unfold wpX9_does
  have hn := hI.1.1
  have hT : TxC tx L σ := by
    rw [etx, eL]
    exact ⟨h.2.2.2.2.2.2.1.1, h.2.2.2.2.2.2.1.2, hI.1.2.2.2.2.2.2.2.2, hI.2.1.2.2.2.2.2.2.2.2.2⟩
  have hL := hT.2.2.1
  rw [h.1.1]
  refine pC_readAll hT (by omega) (fun m f hf t ht => ⟨fun w => ?_, fun _ => kf m f t hf (RepC_ord h ht)⟩) (fun M hF t hR => ⟨fun _ => ⟨M + 2, ?_⟩, fun w => absurd rfl w⟩)
  · have := (rdO_ok (pos_le m)).1 f hf.2
    rw [neI1 (by omega)] at w
    exact w.elim
  · have hRC : RepC (ordA a t) t := RepC_ord h ⟨hR.1, hR.2.1⟩
    have h2m := go_2 M hF.1
    have hp2 := pos_2 hF.2.1
    have hpl : pos tx L (nA a) (M + 1) ≤ L := pos_le (M + 1)
    refine lC_does (a := ordA a t) (inv_ord hI t) (by rw [ord_tag (by decide)]; exact eL) hF (by omega) ?_ (fun i k u v p hi e => ?_) (fun b c hD t' ht' => ks M b c t hF hD t' ht') (M + 2) 0 (plcA (ordA a t) 0) 0 t (Nat.zero_le _) (by omega) ⟨rfl, rfl⟩ (RepC_plc hRC 0)
    · show ntI (t.1 1856) = M + 1
      rw [hR.2.2.1, ntI_of (by omega)]
    · obtain ⟨q1, q2, q3⟩ := hR.2.2.2 i k u v p hi e
      have o := (rdO_ok (pos_le i)).2 k u v p e
      have hk : k < 128 := by
        refine Classical.byContradiction (fun z => o.1 ?_)
        unfold many
        rw [if_neg (by omega), if_neg (by omega), if_neg (by omega)]
      have hv : v < 1000 := rd_v e
      have o4 : u ≤ nA a - 1 := o.2.2.2.1
      refine ⟨?_, ?_, ?_⟩
      · show ntI (t.2 53 i) = k
        rw [q1, ntI_of (by omega)]
      · show ntI (t.2 54 i) = u
        rw [q2, ntI_of (by omega)]
      · show ntI (t.2 55 i) = v
        rw [q3, ntI_of (by omega)]
