-- THE CLASS: what is told, drawn, followed
theorem pC_tellClerk {a : AS} {σ : St} (hI : Inv a) (h : RepC a σ) {c w : Nat} (hc : c < nA a) (hw : w ≤ 7) {Φ : Int32 → St → Prop} (kk : Φ (nI (ofA a c w)) σ) : wpX2_tellClerk (nI c) (nI w) σ Φ := by
  unfold wpX2_tellClerk
  have hn := hI.1.1
  have hc5 : c < 5 := by omega
  unfold ofA at kk
  have L : ∀ k : Nat, k < 8 → (nI w = nI k) = (w = k) := fun k hk => eqI (by omega) (by omega)
  refine pC_clerk hc5 ?_
  rw [nI_lit 0, nI_lit 1, nI_lit 2, nI_lit 3, nI_lit 4, nI_lit 5, nI_lit 6, L 0 (by decide), L 1 (by decide), L 2 (by decide), L 3 (by decide), L 4 (by decide), L 5 (by decide), L 6 (by decide), h.1.2.1 c hc5, h.1.2.2.1 c hc5, h.1.2.2.2.1 c hc5, h.1.2.2.2.2 c hc5]
  refine ⟨fun e => ?_, fun e => ?_, fun e => ?_, fun e => ?_, fun e => ?_, fun e => ?_, fun e => ?_, fun e0 e1 e2 e3 e4 e5 e6 => ?_⟩
  · subst e
    exact kk
  · subst e
    exact kk
  · subst e
    exact kk
  · subst e
    exact pC_firmPage h hI hc5 kk
  · subst e
    exact kk
  · subst e
    exact pC_sumNow h hI.1 hc5 kk
  · subst e
    exact pC_countTo h hI (by omega) kk
  · rw [if_neg e0, if_neg e1, if_neg e2, if_neg e3, if_neg e4, if_neg e5, if_neg e6] at kk
    exact pC_countHeldBy h hI (by omega) kk
theorem pC_tellPage {a : AS} {σ : St} (hI : Inv a) (h : RepC a σ) {c k d w : Nat} (hc : c < nA a) (hk : k < 2 ^ 31) (hd : d < nA a) (hw : w ≤ 3) {Φ : Int32 → St → Prop} (kk : Φ (pgV a c k d w) σ) : wpX2_tellPage (nI c) (nI k) (nI d) (nI w) σ Φ := by
  unfold wpX2_tellPage
  have hn := hI.1.1
  have hc5 : c < 5 := by omega
  have h23 := hI.1.2.1 c hc5
  obtain ⟨L1, L2, L3, L4, L5⟩ := ln_a hc5
  obtain ⟨P1, P2, P3, P4, P5⟩ := pl_a c
  unfold pgV at kk
  have L : ∀ j : Nat, j < 8 → (nI w = nI j) = (w = j) := fun j hj => eqI (by omega) (by omega)
  refine pC_clerk hc5 (pC_hasPage h hI.1 hc5 hk (brB (fun z => ?_) (fun z => ?_)))
  · rw [if_neg z] at kk
    exact kk
  · rw [if_pos z] at kk
    rw [nI_lit 0, nI_lit 1, nI_lit 2, L 0 (by decide), L 1 (by decide), L 2 (by decide)]
    refine ⟨fun e => pC_at (by rw [L1]; omega) ?_, fun e => pC_at (by rw [L2]; omega) ?_, fun e => pC_lifeOf (by rw [L4]; omega) ?_, fun e0 e1 e2 => pC_pageOf (by rw [L5]; omega) ?_⟩
    · subst e
      rw [P1, h.2.2.1.1 c hc5 k z.2]
      exact kk
    · subst e
      rw [P2, h.2.2.1.2.1 c hc5 k z.2]
      exact kk
    · subst e
      rw [P4, h.2.2.1.2.2.1 c hc5 k z.2 d (by omega)]
      exact kk
    · rw [if_neg e0, if_neg e1, if_neg e2] at kk
      rw [P5, h.2.2.1.2.2.2 c hc5 k z.2 d (by omega)]
      exact kk
theorem pC_tellLetter {a : AS} {σ : St} (hI : Inv a) (h : RepC a σ) {d k w : Nat} (hd : d < nA a) (hk : k < 2 ^ 31) (hw : w ≤ 3) {Φ : Int32 → St → Prop} (kk : ∀ r, LetR a d k w a r → Φ r σ) : wpX2_tellLetter (nI d) (nI k) (nI w) σ Φ := by
  unfold wpX2_tellLetter
  have hn := hI.1.1
  have hlc := hI.1.2.2.2.2.2.1
  have L : ∀ j : Nat, j < 8 → (nI w = nI j) = (w = j) := fun j hj => eqI (by omega) (by omega)
  refine pC_find h hI (by omega) hk (fun m hm => ?_) (fun hm => ?_)
  · have fin := kk _ ⟨rfl, Or.inl ⟨m, hm, rfl⟩⟩
    have hml := hm.1
    have s2 := hI.2.1.2.2.2.2.2.2.1 m hml
    have hcl : cLen 43 = 40 ∧ cLen 45 = 40 ∧ cLen (2 * 15 - 3) = 200 := by decide
    refine ⟨fun z => ?_, fun _ => pC_at (by rw [hcl.1]; omega) ?_⟩
    · rw [neI1 (a := m) (by omega)] at z
      exact z.elim
    unfold ltV at fin
    rw [h.2.2.2.1.2.2.1 m hml, nI_lit 0, nI_lit 1, nI_lit 2, L 0 (by decide), L 1 (by decide), L 2 (by decide)]
    refine ⟨fun e => ?_, fun e => pC_at (by rw [hcl.2.1]; omega) ?_, fun e => ?_, fun e0 e1 e2 => pC_pageOf (by rw [hcl.2.2]; omega) ?_⟩
    · subst e
      exact fin
    · subst e
      rw [h.2.2.2.1.2.2.2.1 m hml]
      exact fin
    · subst e
      refine pC_isDeadLetter h hI hml (brB (fun z => ?_) (fun z => ?_))
      · rw [if_neg (by decide), if_neg (by decide), if_pos rfl, b01_f z] at fin
        exact fin
      · rw [if_neg (by decide), if_neg (by decide), if_pos rfl, b01_t z] at fin
        exact fin
    · rw [if_neg e0, if_neg e1, if_neg e2] at fin
      have e27 : σ.2 (2 * 15 - 3) (5 * m + lby a m) = nI (lrp a m (lby a m)) := h.2.2.2.1.2.2.2.2.2 m hml (lby a m) (by omega)
      rw [e27]
      exact fin
  · exact ⟨fun _ => kk _ ⟨rfl, Or.inr ⟨hm, rfl⟩⟩, fun z => absurd rfl z⟩
theorem pC_tellSaying {a : AS} {σ : St} (hI : Inv a) (h : RepC a σ) {k w : Nat} (hk : k < 2 ^ 31) (hw : w ≤ 3) {Φ : Int32 → St → Prop} (kk : Φ (syV a k w) σ) : wpX2_tellSaying (nI k) (nI w) σ Φ := by
  unfold wpX2_tellSaying
  have hsc := hI.1.2.2.2.2.2.2.1
  have L : ∀ j : Nat, j < 8 → (nI w = nI j) = (w = j) := fun j hj => eqI (by omega) (by omega)
  have hcl : cLen 46 = 30 ∧ cLen 47 = 30 ∧ cLen 48 = 30 := by decide
  unfold syV at kk
  rw [h.2.2.2.2.1.1]
  refine pk_lt k (scn a) (fun z => ?_) (fun z => ?_)
  · rw [if_pos z] at kk
    unfold sayA at kk
    rw [nI_lit 0, nI_lit 1, nI_lit 2, L 0 (by decide), L 1 (by decide), L 2 (by decide)]
    refine ⟨fun e => pC_at (by rw [hcl.1]; omega) ?_, fun e => pC_at (by rw [hcl.2.1]; omega) ?_, fun e => pC_at (by rw [hcl.2.2]; omega) ?_, fun e0 e1 e2 => ?_⟩
    · subst e
      rw [h.2.2.2.2.1.2.1 k z]
      exact kk
    · subst e
      rw [h.2.2.2.2.1.2.2.1 k z]
      exact kk
    · subst e
      rw [h.2.2.2.2.1.2.2.2.1 k z]
      exact kk
    · rw [if_neg e0, if_neg e1, if_neg e2] at kk
      refine pC_isSafe hI h z (brB (fun y => ?_) (fun y => ?_))
      · rw [b01_f y] at kk
        exact kk
      · rw [b01_t y] at kk
        exact kk
  · rw [if_neg (by omega)] at kk
    exact kk
theorem pC_writePages {a : AS} {σ : St} (hI : Inv a) (h : RepC a σ) {c m : Nat} (hc : c < nA a) (hm : m < 1000) {Φ : Int32 → St → Prop} (kk : ∀ t, RepC (writeA a c m) t → Φ (nI (wri (writeA a c m) c)) t) : wpX2_writePages (nI c) (nI m) σ Φ := by
  unfold wpX2_writePages
  have hn := hI.1.1
  exact pC_clerk (by omega) (pC_writeMore h hI.1 (by omega) hm kk)
theorem wri_dn {a : AS} (hI : Inv a) {c m : Nat} (hc : c < nA a) : dnN (nI (wri (writeA a c m) c)) = 1 := by
  have hn := hI.1.1
  have hw : wri (writeA a c m) c ≤ now a c := (inv_write hI (c := c) (m := m)).1.2.2.1 c (by omega)
  have h23 := hI.1.2.1 c (by omega)
  exact dn_nI (Nat.lt_of_le_of_lt hw (by omega))
theorem pC_doDrawn {a : AS} {σ : St} (hI : Inv a) (h : RepC a σ) {y : Nat} (hy : y < 2147483648) {Φ : Int32 → St → Prop} (kk : ∀ b r t, DrawR y a b (dnN r) → RepC b t → Φ r t) : wpX2_doDrawn (lN y) σ Φ := by
  unfold wpX2_doDrawn
  have hn := hI.1.1
  have hc : y / 65536 % nA a < nA a := Nat.mod_lt _ (by omega)
  have hw : y / 1024 % 9 < 9 := Nat.mod_lt _ (by decide)
  have hx : y / 32768 % 1000 < 1000 := Nat.mod_lt _ (by decide)
  have L : ∀ j : Nat, j < 9 → (nI (y / 1024 % 9) = nI j) = (y / 1024 % 9 = j) := fun j hj => eqI (by omega) (by omega)
  rw [show (65536 : Int64) = lN 65536 from rfl, show (1024 : Int64) = lN 1024 from rfl, show (32768 : Int64) = lN 32768 from rfl, pk_lDiv (by omega) (by decide) (by decide), pk_lDiv (by omega) (by decide) (by decide), pk_lDiv (by omega) (by decide) (by decide), h.1.1, show (9 : Int32) = nI 9 from rfl, show (1000 : Int32) = nI 1000 from rfl]
  refine pC_leftOver (by omega) (by omega) (by omega) (pC_leftOver (by omega) (by decide) (by decide) ?_)
  rw [nI_lit 0, nI_lit 1, nI_lit 2, nI_lit 3, nI_lit 4, nI_lit 5, nI_lit 6, nI_lit 7, L 0 (by decide), L 1 (by decide), L 2 (by decide), L 3 (by decide), L 4 (by decide), L 5 (by decide), L 6 (by decide), L 7 (by decide)]
  have work : y / 1024 % 9 < 3 → wpX9_leftOver (lN (y / 32768)) (nI 1000) σ (fun r7 t6 => wpX2_addWork (nI (y / 65536 % nA a)) r7 t6 (fun r9 t8 => Φ r9 t8)) := fun z => pC_leftOver (by omega) (by decide) (by decide) (pC_work hI h hc (by omega) (fun b r t hr ht => kk b r t (Or.inl ⟨z, r, hr, rfl⟩) ht))
  have en : nI (y / 65536 % nA a) + nI 1 = nI (y / 65536 % nA a + 1) := addI _ _
  have send : 3 ≤ y / 1024 % 9 ∧ y / 1024 % 9 < 5 → wpX9_leftOver ((nI (y / 65536 % nA a) + nI 1).toInt64) (σ.1 0) σ (fun r22 t21 => wpX2_sendLetter (nI (y / 65536 % nA a)) r22 t21 (fun r24 t23 => Φ r24 t23)) := fun z => by
    rw [en, nI_l (by omega), h.1.1]
    exact pC_leftOver (by omega) (by omega) (by omega) (pC_send hI h hc (fun b r t hr ht => kk b r t (Or.inr (Or.inl ⟨z, r, hr, rfl⟩)) ht))
  have get : 5 ≤ y / 1024 % 9 ∧ y / 1024 % 9 < 7 → wpX2_takeLetter (nI (y / 65536 % nA a)) (nI 0) σ (fun r32 t31 => Φ r32 t31) := fun z => pC_get hI h hc (by decide) (fun b r t hr ht => kk b r t (Or.inr (Or.inr (Or.inl ⟨z, r, hr, rfl⟩))) ht)
  refine ⟨fun e => work (by omega), fun e => work (by omega), fun e => work (by omega), fun e => send (by omega), fun e => send (by omega), fun e => get (by omega), fun e => get (by omega), fun e => ?_, fun e0 e1 e2 e3 e4 e5 e6 e7 => ?_⟩
  · refine pC_writePages hI h hc (by decide) (fun t ht => kk _ _ t (Or.inr (Or.inr (Or.inr (Or.inl ⟨e, rfl, wri_dn hI hc⟩)))) ht)
  · exact pC_say hI h hc (fun b r t hr ht => kk b r t (Or.inr (Or.inr (Or.inr (Or.inr ⟨by omega, r, hr, rfl⟩)))) ht)
theorem pC_isDone {r : Int32} {σ : St} {Φ : Int32 → St → Prop} (kk : Φ (nI (dnN r)) σ) : wpX9_isDone r σ Φ := by
  unfold wpX9_isDone
  unfold dnN at kk
  refine ⟨fun z => ?_, fun z => ?_⟩
  · rw [if_pos z] at kk
    exact kk
  · rw [if_neg z] at kk
    exact kk
theorem lC_draw {a : AS} {s m : Nat} (hI : Inv a) (hs : s < 2147483648) (hm : m ≤ 60) {Φ : Int32 → St → Prop} (kk : ∀ b x c t, DrN a s m b x c → RepC b t → Φ (nI c) t) :
    ∀ (N i : Nat) (b : AS) (x c : Nat) (t : St), i ≤ m → m - i < N → DrN a s i b x c → RepC b t → wlX9_draw_64 Φ N (nI m) (lN x) (nI c) (nI i) t := by
  intro N
  induction N with
  | zero => intro i b x c t h1 h2; omega
  | succ N ih =>
    intro i b x c t hi hN hD h
    obtain ⟨hIb, hK, hx, hc⟩ := drn_ok hI hs i b x c hD
    show wlX9_draw_64_body Φ (wlX9_draw_64 Φ N) (nI m) (lN x) (nI c) (nI i) t
    unfold wlX9_draw_64_body wbX9_draw_104
    refine pk_le m i (fun q => ?_) (fun q y2 e2 => ?_)
    · have e : i = m := by omega
      subst e
      exact kk b x c t hD h
    · rw [nxtL hx] at e2
      subst e2
      refine pC_doDrawn hIb h (nxt_lt x) (fun b' r t' hd ht' => pC_isDone ?_)
      have rest := ih (i + 1) b' (nxt x) (c + dnN r) t' (by omega) (by omega) ⟨b, x, c, dnN r, hD, rfl, hd, rfl⟩ ht'
      obtain ⟨-, ok1⟩ := draw_kpt hd
      rcases (show dnN r = 0 ∨ dnN r = 1 by omega) with e | e
      · rw [e] at rest ⊢
        refine ⟨fun _ y1 e1 => ?_, fun z => absurd rfl z⟩
        rw [e1, nI_1]
        exact rest
      · rw [e] at rest ⊢
        refine ⟨fun z => absurd z (by decide), fun _ y8 e8 y1 e1 => ?_⟩
        rw [e8, e1, nI_1, nI_1]
        exact rest
theorem pC_follow {a : AS} {σ : St} (hI : Inv a) (h : RepC a σ) {k u v : Nat} (hk : k < 128) (hm : many k ≠ 3) (hu : u < nA a) (hv : many k = 2 → v ≤ mostS k (nA a)) {Φ : Int32 → St → Prop} (kk : ∀ b r t, DoR k u v a b (dnN r) → RepC b t → Φ r t) : wpX2_follow (nI k) (nI u) (nI v) σ Φ := by
  unfold wpX2_follow
  have hn := hI.1.1
  have L : ∀ j : Nat, j < 128 → (nI k = nI j) = (k = j) := fun j hj => eqI (by omega) (by omega)
  rw [nI_lit 103, nI_lit 108, nI_lit 111, nI_lit 114, nI_lit 115, nI_lit 119, nI_lit 120, L 103 (by decide), L 108 (by decide), L 111 (by decide), L 114 (by decide), L 115 (by decide), L 119 (by decide), L 120 (by decide)]
  refine ⟨fun e => ?_, fun e => ?_, fun e => ?_, fun e => ?_, fun e => ?_, fun e => ?_, fun e => ?_, fun e1 e2 e3 e4 e5 e6 e7 => ?_⟩
  · have hv2 := hv (by rw [e]; rfl)
    rw [show mostS k (nA a) = 99 by rw [e]; rfl] at hv2
    exact pC_get hI h hu (by omega) (fun b r t hr ht => kk b r t (Or.inr (Or.inr (Or.inl ⟨e, r, hr, rfl⟩))) ht)
  · exact pC_writePages hI h hu (by decide) (fun t ht => kk _ _ t (Or.inr (Or.inr (Or.inr (Or.inl ⟨e, rfl, wri_dn hI hu⟩)))) ht)
  · exact pC_say hI h hu (fun b r t hr ht => kk b r t (Or.inr (Or.inr (Or.inr (Or.inr (Or.inr (Or.inl ⟨e, r, hr, rfl⟩)))))) ht)
  · exact pC_releases hI h (fun r b t hr hR ht => kk b _ t (Or.inr (Or.inr (Or.inr (Or.inr (Or.inr (Or.inr (Or.inl ⟨e, ⟨r, hR⟩, dn_nI (by omega)⟩))))))) ht)
  · exact pC_send hI h hu (fun b r t hr ht => kk b r t (Or.inr (Or.inl ⟨e, r, hr, rfl⟩)) ht)
  · have hv2 := hv (by rw [e]; rfl)
    rw [show mostS k (nA a) = 999 by rw [e]; rfl] at hv2
    exact pC_work hI h hu (by omega) (fun b r t hr ht => kk b r t (Or.inl ⟨e, r, hr, rfl⟩) ht)
  · exact pC_lose hI h hu (fun b r t hr ht => kk b r t (Or.inr (Or.inr (Or.inr (Or.inr (Or.inl ⟨e, r, hr, rfl⟩))))) ht)
  · have e8 : k = 117 := by
      refine Classical.byContradiction (fun z => hm ?_)
      unfold many
      rw [if_neg (by omega), if_neg (by omega), if_neg (by omega)]
    exact pC_cutAll hI h (fun s t hs ht => kk _ _ t (Or.inr (Or.inr (Or.inr (Or.inr (Or.inr (Or.inr (Or.inr ⟨e8, rfl, dn_nI (by omega)⟩))))))) ht)
theorem pC_tell {a : AS} {σ : St} (hI : Inv a) (h : RepC a σ) {w : Nat} (hw : w ≤ 9) {Φ : Int32 → St → Prop} (kk : Φ (nI (toldA a w)) σ) : wpX9_tell (nI w) σ Φ := by
  unfold wpX9_tell
  unfold toldA at kk
  have L : ∀ j : Nat, j < 10 → (nI w = nI j) = (w = j) := fun j hj => eqI (by omega) (by omega)
  rw [nI_lit 0, nI_lit 1, nI_lit 2, nI_lit 3, nI_lit 4, nI_lit 5, nI_lit 6, nI_lit 7, nI_lit 8, L 0 (by decide), L 1 (by decide), L 2 (by decide), L 3 (by decide), L 4 (by decide), L 5 (by decide), L 6 (by decide), L 7 (by decide), L 8 (by decide)]
  rw [h.2.2.2.2.2.1.2.1, h.2.2.2.2.2.1.2.2.1, h.2.2.2.2.2.1.2.2.2, h.2.2.2.2.2.2.1.1, h.1.1, h.2.2.2.1.1, h.2.2.2.2.1.1, h.2.2.2.2.1.2.2.2.2.1, h.2.2.2.2.2.1.1]
  refine ⟨fun e => ?_, fun e => ?_, fun e => ?_, fun e => ?_, fun e => ?_, fun e => ?_, fun e => ?_, fun e => ?_, fun e => ?_, fun e0 e1 e2 e3 e4 e5 e6 e7 e8 => ?_⟩
  · subst e; exact kk
  · subst e; exact kk
  · subst e; exact kk
  · subst e; exact kk
  · subst e; exact kk
  · subst e; exact kk
  · subst e; exact kk
  · subst e; exact pC_countHeld h hI kk
  · subst e; exact kk
  · rw [if_neg e0, if_neg e1, if_neg e2, if_neg e3, if_neg e4, if_neg e5, if_neg e6, if_neg e7, if_neg e8] at kk
    exact kk
