/-- where the orders begin -/
def pos (tx : Nat → Nat) (L n : Nat) : Nat → Nat
  | 0 => 0
  | i + 1 => match rdO tx L n (pos tx L n i) with
    | .inr (_, _, _, p) => sk tx L p
    | .inl _ => pos tx L n i
theorem pos_s {tx : Nat → Nat} {L n i k u v p : Nat} (h : rdO tx L n (pos tx L n i) = .inr (k, u, v, p)) : pos tx L n (i + 1) = sk tx L p := by
  show (match rdO tx L n (pos tx L n i) with
    | .inr (_, _, _, p) => sk tx L p
    | .inl _ => pos tx L n i) = _
  rw [h]
theorem pos_le {tx : Nat → Nat} {L n : Nat} : ∀ i, pos tx L n i ≤ L := by
  intro i
  induction i with
  | zero => exact Nat.zero_le _
  | succ i ih =>
    cases h : rdO tx L n (pos tx L n i) with
    | inl f =>
      show (match rdO tx L n (pos tx L n i) with
        | .inr (_, _, _, p) => sk tx L p
        | .inl _ => pos tx L n i) ≤ L
      rw [h]
      exact ih
    | inr q =>
      obtain ⟨k, u, v, p⟩ := q
      rw [pos_s h]
      exact sk_le ((rdO_ok ih).2 k u v p h).2.2.1
/-- an order stands there -/
def OrdAt (tx : Nat → Nat) (L n i : Nat) : Prop := ∃ k u v p, rdO tx L n (pos tx L n i) = .inr (k, u, v, p)
/-- m orders stand there, and more is to come -/
def Go (tx : Nat → Nat) (L n m : Nat) : Prop := ∀ i, i < m → OrdAt tx L n i ∧ pos tx L n (i + 1) < L
theorem pos_2 {tx : Nat → Nat} {L n i : Nat} (h : OrdAt tx L n i) : pos tx L n i + 2 ≤ pos tx L n (i + 1) := by
  obtain ⟨k, u, v, p, e⟩ := h
  have h1 := ((rdO_ok (pos_le i)).2 k u v p e).2.1
  rw [pos_s e]
  exact Nat.le_trans h1 (sk_ge tx L p)
theorem go_2 {tx : Nat → Nat} {L n : Nat} : ∀ m, Go tx L n m → 2 * m ≤ pos tx L n m := by
  intro m
  induction m with
  | zero => intro _; exact Nat.zero_le _
  | succ m ih =>
    intro h
    have h1 := ih (fun i hi => h i (by omega))
    have h2 := pos_2 (h m (Nat.lt_succ_self m)).1
    omega
theorem go_s {tx : Nat → Nat} {L n m : Nat} (h : Go tx L n m) (h1 : OrdAt tx L n m) (h2 : pos tx L n (m + 1) < L) : Go tx L n (m + 1) := by
  intro i hi
  by_cases e : i = m
  · rw [e]
    exact ⟨h1, h2⟩
  · exact h i (by omega)
/-- the text is read to its end: m + 1 orders -/
def FinO (tx : Nat → Nat) (L n m : Nat) : Prop := Go tx L n m ∧ OrdAt tx L n m ∧ L ≤ pos tx L n (m + 1)
/-- there is a fault, at f -/
def Flt (tx : Nat → Nat) (L n m f : Nat) : Prop := Go tx L n m ∧ rdO tx L n (pos tx L n m) = .inl f
theorem fin_uq {tx : Nat → Nat} {L n m m' : Nat} (h : FinO tx L n m) (h' : FinO tx L n m') : m = m' := by
  rcases Nat.lt_trichotomy m m' with q | q | q
  · have h1 := (h'.1 m q).2
    have h2 := h.2.2
    omega
  · exact q
  · have h1 := (h.1 m' q).2
    have h2 := h'.2.2
    omega
theorem flt_uq {tx : Nat → Nat} {L n m m' f f' : Nat} (h : Flt tx L n m f) (h' : Flt tx L n m' f') : f = f' := by
  have e : m = m' := by
    rcases Nat.lt_trichotomy m m' with q | q | q
    · obtain ⟨k, u, v, p, e⟩ := (h'.1 m q).1
      rw [h.2] at e
      cases e
    · exact q
    · obtain ⟨k, u, v, p, e⟩ := (h.1 m' q).1
      rw [h'.2] at e
      cases e
  subst e
  have := h.2.symm.trans h'.2
  injection this
theorem fin_flt {tx : Nat → Nat} {L n m m' f : Nat} (h : FinO tx L n m) (h' : Flt tx L n m' f) : False := by
  rcases Nat.lt_trichotomy m m' with q | q | q
  · have h1 := (h'.1 m q).2
    have h2 := h.2.2
    omega
  · subst q
    obtain ⟨k, u, v, p, e⟩ := h.2.1
    rw [h'.2] at e
    cases e
  · obtain ⟨k, u, v, p, e⟩ := (h.1 m' q).1
    rw [h'.2] at e
    cases e
/-- m orders have been done: from a to b, c of them could be done -/
def Dn (a : AS) (tx : Nat → Nat) (L n : Nat) : Nat → AS → Nat → Prop
  | 0, b, c => b = plcA a 0 ∧ c = 0
  | m + 1, b, c => ∃ b' c' k u v p b'' ok, Dn a tx L n m b' c' ∧ rdO tx L n (pos tx L n m) = .inr (k, u, v, p) ∧ DoR k u v (plcA b' p) b'' ok ∧ b = plcA b'' (pos tx L n (m + 1)) ∧ c = c' + ok
theorem dn_uq {a : AS} {tx : Nat → Nat} {L n : Nat} : ∀ (m : Nat) (b b2 : AS) (c c2 : Nat), Dn a tx L n m b c → Dn a tx L n m b2 c2 → b = b2 ∧ c = c2 := by
  intro m
  induction m with
  | zero => intro b b2 c c2 h h2; exact ⟨h.1.trans h2.1.symm, h.2.trans h2.2.symm⟩
  | succ m ih =>
    intro b b2 c c2 h h2
    obtain ⟨b', c', k, u, v, p, b'', ok, q1, q2, q3, q4, q5⟩ := h
    obtain ⟨d', e', k', u', v', p', d'', ok', r1, r2, r3, r4, r5⟩ := h2
    obtain ⟨i1, i2⟩ := ih _ _ _ _ q1 r1
    rw [q2] at r2
    injection r2 with r2
    injection r2 with z1 r2
    injection r2 with z2 r2
    injection r2 with z3 z4
    subst z1 z2 z3 z4 i1 i2
    obtain ⟨j1, j2⟩ := do_uq q3 r3
    subst j1 j2
    exact ⟨q4.trans r4.symm, q5.trans r5.symm⟩
theorem dn_kpt {a : AS} {tx : Nat → Nat} {L n : Nat} : ∀ (m : Nat) (b : AS) (c : Nat), Dn a tx L n m b c → (nA b = nA a ∧ b 26 = a 26 ∧ b 27 = a 27) ∧ plc b = pos tx L n m ∧ c ≤ m := by
  intro m
  induction m with
  | zero =>
    intro b c h
    rw [h.1, h.2]
    exact ⟨⟨rfl, rfl, rfl⟩, rfl, Nat.le_refl 0⟩
  | succ m ih =>
    intro b c h
    obtain ⟨b', c', k, u, v, p, b'', ok, q1, q2, q3, q4, q5⟩ := h
    obtain ⟨⟨i1, i2, i3⟩, i4, i5⟩ := ih _ _ q1
    obtain ⟨⟨j1, j2, j3, j4⟩, j5⟩ := do_kpt q3
    rw [q4, q5]
    exact ⟨⟨j1.trans i1, j2.trans i2, j3.trans i3⟩, rfl, by omega⟩
theorem mostS_s {v n : Nat} (h : v ≤ mostS 115 n) (hn : 1 ≤ n) : v < n := by
  have : mostS 115 n = n - 1 := rfl
  omega
theorem dn_inv {a : AS} {tx : Nat → Nat} {L : Nat} (hI : Inv a) : ∀ (m : Nat) (b : AS) (c : Nat), Dn a tx L (nA a) m b c → Inv b := by
  intro m
  induction m with
  | zero =>
    intro b c h
    rw [h.1]
    exact inv_plc hI 0
  | succ m ih =>
    intro b c h
    obtain ⟨b', c', k, u, v, p, b'', ok, q1, q2, q3, q4, q5⟩ := h
    have hn := hI.1.1
    have o := (rdO_ok (pos_le m)).2 k u v p q2
    have i := (dn_kpt m b' c' q1).1.1
    have o1 := o.2.2.2.1
    rw [q4]
    refine inv_plc (do_inv (inv_plc (ih _ _ q1) p) ?_ ?_ q3) _
    · show u < nA b'
      omega
    · intro e
      subst e
      show v < nA b'
      have := mostS_s (o.2.2.2.2 rfl) (by omega)
      omega
theorem TxM_R {a : AS} {μ : St} (h : RepM a μ) (hI : Inv a) : TxM (fun i => a 27 i 0 0) (a 26 0 0 0) μ :=
  ⟨h.2.2.2.2.2.2.1, h.2.2.2.2.2.2.2.1, hI.1.2.2.2.2.2.2.2.2, hI.2.1.2.2.2.2.2.2.2.2.2⟩
/-- the first way through: nothing is done -/
theorem lM_go0 {tx : Nat → Nat} {L n : Nat} {μ : St} (h : TxM tx L μ) (hn : μ.1 0 = nI n) (hn5 : 1 ≤ n ∧ n ≤ 5) {Φ : Int32 → St → Prop} (kf : ∀ m f, Flt tx L n m f → ∀ t, Sk μ t f → Φ (-1) t) (ks : ∀ m, FinO tx L n m → ∀ t p, Sk μ t p → Φ 0 t) :
    ∀ (N m : Nat) (t : St), Go tx L n m → Sk μ t (pos tx L n m) → L - pos tx L n m + 1 < N → wlX10_goesThrough_9 Φ N 0 0 1 t := by
  intro N
  induction N with
  | zero => intro m t h1 h2 h3; omega
  | succ N ih =>
    intro m t hg hS hN
    have hL := h.2.2.1
    have hpl : pos tx L n m ≤ L := pos_le m
    show wlX10_goesThrough_9_body Φ (wlX10_goesThrough_9 Φ N) 0 0 1 t
    unfold wlX10_goesThrough_9_body wbX10_goesThrough_45 wbX10_goesThrough_46 wbX10_goesThrough_68
    refine ⟨fun z => absurd z (by decide), fun _ => ?_⟩
    have hn2 : t.1 0 = nI n := (hS.2.1 0 (by decide) (by decide) (by decide)).trans hn
    refine pM_reads (TxM_Sk h hS) hn2 hn5 hpl hS.2.2 ?_
    cases e : rdO tx L n (pos tx L n m) with
    | inl f =>
      intro t2 hS2
      refine ⟨fun _ => kf m f ⟨hg, e⟩ t2 ?_, fun z => absurd rfl z⟩
      exact ⟨hS2.1.trans hS.1, fun j h1 h2 h3 => (hS2.2.1 j h1 h2 h3).trans (hS.2.1 j h1 h2 h3), hS2.2.2⟩
    | inr q =>
      obtain ⟨k, u, v, p⟩ := q
      intro t2 hS2 h24 h25
      have o := (rdO_ok hpl).2 k u v p e
      have hk : k < 128 := by
        refine Classical.byContradiction (fun z => o.1 ?_)
        unfold many
        rw [if_neg (by omega), if_neg (by omega), if_neg (by omega)]
      have hS3 : Sk μ t2 p := ⟨hS2.1.trans hS.1, fun j h1 h2 h3 => (hS2.2.1 j h1 h2 h3).trans (hS.2.1 j h1 h2 h3), hS2.2.2⟩
      refine ⟨fun z => ?_, fun _ => ⟨fun _ => ?_, fun z => absurd rfl z⟩⟩
      · rw [neI1 (by omega)] at z
        exact z.elim
      · intro y1 e1
        refine pM_skip (TxM_Sk h hS3) o.2.2.1 hS3.2.2 ?_
        have hS4 := Sk_23 hS3 (sk tx L p)
        rw [hS4.2.2, (TxM_Sk h hS4).1, e1]
        have hp1 : pos tx L n (m + 1) = sk tx L p := pos_s e
        have hO : OrdAt tx L n m := ⟨k, u, v, p, e⟩
        have hp2 := pos_2 hO
        have hsl := sk_le (tx := tx) o.2.2.1
        refine pk_le L (sk tx L p) (fun z => ?_) (fun z => ?_)
        · obtain ⟨N', rfl⟩ : ∃ N', N = N' + 1 := ⟨N - 1, by omega⟩
          show wlX10_goesThrough_9_body Φ (wlX10_goesThrough_9 Φ N') 0 (0 + 0) 0 _
          unfold wlX10_goesThrough_9_body
          exact ⟨fun _ => ks m ⟨hg, hO, by rw [hp1]; exact z⟩ _ _ hS4, fun w => absurd rfl w⟩
        · have hl : pos tx L n (m + 1) < L := by rw [hp1]; exact z
          have := ih (m + 1) _ (go_s hg hO hl) (by rw [hp1]; exact hS4) (by omega)
          exact this
/-- the second way through: all orders are done -/
theorem lM_go1 {a : AS} {tx : Nat → Nat} {L : Nat} (hI : Inv a) (etx : tx = fun i => a 27 i 0 0) (eL : L = a 26 0 0 0) {M : Nat} (hF : FinO tx L (nA a) M) {Φ : Int32 → St → Prop} (ks : ∀ b c, Dn a tx L (nA a) (M + 1) b c → ∀ t, RepM b t → Φ (nI c) t) :
    ∀ (N m : Nat) (b : AS) (c : Nat) (t : St), m ≤ M → Dn a tx L (nA a) m b c → RepM b t → M - m + 1 < N → wlX10_goesThrough_9 Φ N 1 (nI c) 1 t := by
  have hn := hI.1.1
  intro N
  induction N with
  | zero => intro m b c t h1 h2 h3; omega
  | succ N ih =>
    intro m b c t hm hD h hN
    obtain ⟨⟨kn, k26, k27⟩, kp, kc⟩ := dn_kpt m b c hD
    have hIb := dn_inv hI m b c hD
    have hT : TxM tx L t := by
      have := TxM_R h hIb
      rw [k26, k27] at this
      rw [etx, eL]
      exact this
    have hpl : pos tx L (nA a) m ≤ L := pos_le m
    show wlX10_goesThrough_9_body Φ (wlX10_goesThrough_9 Φ N) 1 (nI c) 1 t
    unfold wlX10_goesThrough_9_body wbX10_goesThrough_45
    refine ⟨fun z => absurd z (by decide), fun _ => ?_⟩
    have hp0 : t.1 23 = nI (pos tx L (nA a) m) := by rw [← kp]; exact h.2.2.2.2.2.2.2.2
    have hn0 : t.1 0 = nI (nA a) := by rw [← kn]; exact h.1.1
    refine pM_reads hT hn0 (by omega) hpl hp0 ?_
    have hO : OrdAt tx L (nA a) m := by
      by_cases q : m = M
      · rw [q]; exact hF.2.1
      · exact (hF.1 m (by omega)).1
    obtain ⟨k, u, v, p, e⟩ := hO
    rw [e]
    intro t2 hS2 h24 h25
    have o := (rdO_ok hpl).2 k u v p e
    have hk : k < 128 := by
      refine Classical.byContradiction (fun z => o.1 ?_)
      unfold many
      rw [if_neg (by omega), if_neg (by omega), if_neg (by omega)]
    have hR2 := RepM_Sk h hS2
    have hI2 := inv_plc hIb p
    have o4 := o.2.2.2.1
    refine ⟨fun z => ?_, fun _ => ⟨fun z => absurd z (by decide), fun _ => ?_⟩⟩
    · rw [neI1 (by omega)] at z
      exact z.elim
    refine pM_doesOne (v := v) hI2 hR2 hk o.1 (show u < nA b by omega) (fun z => by show v ≤ mostS k (nA b); rw [kn]; exact o.2.2.2.2 z) h24 h25 (fun b2 ok t6 hd hR6 => ?_)
    obtain ⟨⟨j1, j2, j3, j4⟩, j5⟩ := do_kpt hd
    have hp1 : pos tx L (nA a) (m + 1) = sk tx L p := pos_s e
    have hD2 : Dn a tx L (nA a) (m + 1) (plcA b2 (pos tx L (nA a) (m + 1))) (c + ok) := ⟨b, c, k, u, v, p, b2, ok, hD, e, hd, rfl, rfl⟩
    have hI6 : Inv b2 := dn_inv hI _ _ _ hD2 |> fun z => inv_plc z (plc b2) |> fun z => by
      have e : plcA (plcA b2 (pos tx L (nA a) (m + 1))) (plc b2) = b2 := by
        funext t i j l
        show (if t = 28 then (fun _ _ _ => plc b2) else (if t = 28 then (fun _ _ _ => pos tx L (nA a) (m + 1)) else b2 t)) i j l = b2 t i j l
        by_cases q : t = 28
        · rw [if_pos q]
          subst q
          have e1 : b2 28 = (plcA b p) 28 := j4
          rw [e1]
          show b2 28 0 0 0 = p
          rw [e1]
          rfl
        · rw [if_neg q, if_neg q]
      rw [e] at z
      exact z
    have hT6 : TxM tx L t6 := by
      have := TxM_R hR6 hI6
      rw [j2, j3] at this
      have h26 : plcA b p 26 = a 26 := k26
      have h27 : plcA b p 27 = a 27 := k27
      rw [h26, h27] at this
      rw [etx, eL]
      exact this
    have hp6 : t6.1 23 = nI p := by
      have := hR6.2.2.2.2.2.2.2.2
      rw [this]
      show nI (b2 28 0 0 0) = _
      rw [j4]
      rfl
    have rest : wbX10_goesThrough_46 Φ (wlX10_goesThrough_9 Φ N) 1 (nI c) (nI ok) t6 := by
      unfold wbX10_goesThrough_46 wbX10_goesThrough_68
      intro y1 e1
      rw [addI] at e1
      refine pM_skip hT6 o.2.2.1 hp6 ?_
      have hS6 := Sk_23 (Sk_0 hp6) (sk tx L p)
      have hR7 := RepM_Sk hR6 hS6
      rw [← hp1] at hR7
      rw [hS6.2.2, (TxM_Sk hT6 hS6).1, e1]
      have hsl := sk_le (tx := tx) o.2.2.1
      have hL := hT6.2.2.1
      refine pk_le L (sk tx L p) (fun z => ?_) (fun z => ?_)
      · have hmM : m = M := by
          by_cases q : m = M
          · exact q
          · have := (hF.1 m (by omega)).2
            omega
        subst hmM
        obtain ⟨N', rfl⟩ : ∃ N', N = N' + 1 := ⟨N - 1, by omega⟩
        show wlX10_goesThrough_9_body Φ (wlX10_goesThrough_9 Φ N') 1 (nI (c + ok)) 0 _
        unfold wlX10_goesThrough_9_body
        rw [← hp1]
        exact ⟨fun _ => ks _ _ hD2 _ hR7, fun w => absurd rfl w⟩
      · have hmM : m < M := by
          by_cases q : m = M
          · subst q
            have := hF.2.2
            omega
          · omega
        rw [← hp1]
        exact ih (m + 1) _ _ _ (by omega) hD2 hR7 (by omega)
    rcases (show ok = 0 ∨ ok = 1 by omega) with rfl | rfl
    · exact ⟨fun _ => rest, fun z => absurd rfl z⟩
    · exact ⟨fun z => absurd z (by decide), fun _ => rest⟩
theorem pM_does {a : AS} {μ : St} (hI : Inv a) (h : RepM a μ) {tx : Nat → Nat} {L : Nat} (etx : tx = fun i => a 27 i 0 0) (eL : L = a 26 0 0 0) {Φ : Int32 → St → Prop} (kf : ∀ m f, Flt tx L (nA a) m f → ∀ t, RepM (plcA a f) t → Φ ((-10) - nI f) t) (ks : ∀ M b c, FinO tx L (nA a) M → Dn a tx L (nA a) (M + 1) b c → ∀ t, RepM b t → Φ (nI c) t) : wpX10_does μ Φ := by
  unfold wpX10_does wpX10_goesThrough
  have hn := hI.1.1
  have hT : TxM tx L μ := by
    rw [etx, eL]
    exact TxM_R h hI
  have hL := hT.2.2.1
  intro t1 e1
  have hS1 : Sk μ t1 0 := by
    rw [e1]
    exact Sk_23 (Sk_0 h.2.2.2.2.2.2.2.2) 0
  refine ⟨L + 2, lM_go0 hT h.1.1 (by omega) (fun m f hf t hS => ?_) (fun M hF t p hS => ?_) (L + 2) 0 t1 (fun i hi => absurd hi (Nat.not_lt_zero i)) hS1 (by show L - 0 + 1 < L + 2; omega)⟩
  · rw [hS.2.2]
    exact ⟨fun _ => kf m f hf t (RepM_Sk h hS), fun z => absurd rfl z⟩
  · refine ⟨fun z => absurd z (by decide), fun _ t2 e2 => ⟨M + 2, ?_⟩⟩
    have hR : RepM (plcA a 0) t2 := by
      rw [e2]
      exact RepM_Sk h (Sk_23 hS 0)
    exact lM_go1 hI etx eL hF (ks M · · hF) (M + 2) 0 (plcA a 0) 0 t2 (Nat.zero_le _) ⟨rfl, rfl⟩ hR (by omega)
theorem pM_type {a : AS} {μ : St} (hI : Inv a) (h : RepM a μ) {x : Int32} {Φ : Int32 → St → Prop} (k1 : ¬ (nI 0 ≤ x ∧ x ≤ nI 127) → ∀ t, RepM (badA a) t → Φ (-2) t) (k2 : (nI 0 ≤ x ∧ x ≤ nI 127) → tln a = 120 → ∀ t, RepM (fullA a) t → Φ (-4) t) (k3 : ∀ v, v < 128 → x = nI v → tln a < 120 → ∀ t, RepM (typeA a v) t → Φ (nI (tln a + 1)) t) : wpX10_type x μ Φ := by
  unfold wpX10_type
  have hL := hI.1.2.2.2.2.2.2.2.2
  refine pM_in (lo := nI 0) (hi := nI 127) (brB (fun q => pM_bad h (fun t ht => k1 q t ht)) (fun q => ?_))
  rw [h.2.2.2.2.2.2.1]
  refine pk_eq (tln a) 120 (fun z => pM_full h (fun t ht => k2 q z t ht)) (fun z => ?_)
  obtain ⟨v, -, hv, rfl⟩ := inR (a := 0) (b := 127) rfl rfl (by decide) (by decide) q
  refine ⟨pk_in (tln a) 120 (by omega), fun t6 e6 t7 e7 => ?_⟩
  rw [wr_nI _ _ _ (by omega)] at e6
  have h6 : t6.1 22 = nI (tln a) := by rw [e6]; exact h.2.2.2.2.2.2.1
  rw [h6, nI_1] at e7
  have h7 : t7.1 22 = nI (tln a + 1) := by rw [e7]; rfl
  rw [h7]
  refine k3 v (by omega) rfl (by omega) t7 ?_
  obtain ⟨h1, h2, h3, h4, h5, h6', ⟨g1, g2, g3⟩⟩ := h
  subst e7
  subst e6
  refine ⟨h1, h2, h3, h4, h5, h6', ⟨rfl, fun i hi => ?_, g3⟩⟩
  have hi : i < tln a + 1 := hi
  show (w2 μ 15 (tln a) (nI v)).2 15 i = nI (if i = tln a then v else a 27 i 0 0)
  rw [w2_at]
  by_cases e : i = tln a
  · rw [if_pos e, if_pos e]
  · rw [if_neg e, if_neg e]
    exact g2 i (by omega)
theorem pM_clear {a : AS} {μ : St} (h : RepM a μ) {Φ : Int32 → St → Prop} (kk : ∀ t, RepM (clearA a) t → Φ (nI (tln a)) t) : wpX10_clear μ Φ := by
  unfold wpX10_clear
  obtain ⟨h1, h2, h3, h4, h5, h6, ⟨g1, g2, g3⟩⟩ := h
  intro y1 e1 t2 e2
  rw [e1, g1]
  subst e2
  exact kk _ ⟨h1, h2, h3, h4, h5, h6, ⟨rfl, fun i hi => absurd hi (Nat.not_lt_zero i), g3⟩⟩
