-- THE REFERENCE'S DRAWS, DIGEST
theorem dL_div {y b : Nat} (hy : y < 2 ^ 63) (h0 : 0 < b) (hb : b < 2 ^ 63) : lN y / lN b = lN (y / b) := pk_lDiv hy h0 hb
/-- a remainder of a quotient -/
theorem remL {y b n : Nat} (hy : y < 2 ^ 62) (h0 : 0 < b) (hb : b < 2 ^ 62) (hn0 : 0 < n) (hn : n < 2 ^ 31) : ((lN y / lN b) - (lN y / lN b) / lN n * lN n).toInt32 = nI (y / b % n) := by
  rw [pk_lDiv (by omega) h0 (by omega), pk_lRem (Nat.lt_of_le_of_lt (Nat.div_le_self y b) (by omega)) hn0 (by omega), lN_i]
theorem nxtL {x : Nat} (hx : x < 2147483648) : (lN x * (1103515245 : Int64) + (12345 : Int64)) - (lN x * (1103515245 : Int64) + (12345 : Int64)) / (2147483648 : Int64) * (2147483648 : Int64) = lN (nxt x) := by
  rw [show (1103515245 : Int64) = lN 1103515245 from rfl, show (12345 : Int64) = lN 12345 from rfl, show (2147483648 : Int64) = lN 2147483648 from rfl, lN_mul, lN_add, pk_lRem (by omega) (by decide) (by decide)]
  rfl
theorem pM_draws {a : AS} {μ : St} (hI : Inv a) (h : RepM a μ) {y : Nat} {Φ : Int32 → St → Prop} (kk : ∀ b ok t, DrawR y a b ok → RepM b t → Φ (nI ok) t) : wpX10_draws (nI (y / 65536 % nA a)) (nI (y / 1024 % 9)) (nI (y / 32768 % 1000)) μ Φ := by
  unfold wpX10_draws
  have hb := hI.1
  have hn := hb.1
  have hc : y / 65536 % nA a < nA a := Nat.mod_lt _ (by omega)
  have hw : y / 1024 % 9 < 9 := Nat.mod_lt _ (by decide)
  have hx : y / 32768 % 1000 < 1000 := Nat.mod_lt _ (by decide)
  have fin : ∀ b r t, (∀ ok, ok = dnN r → DrawR y a b ok) → RepM b t → (dnN r = 0 → Φ 0 t) ∧ (dnN r = 1 → Φ 1 t) := by
    intro b r t hd hr
    have := kk b _ t (hd _ rfl) hr
    exact ⟨fun z => by rw [z] at this; exact this, fun z => by rw [z] at this; exact this⟩
  refine pk_le 3 (y / 1024 % 9) (fun q3 => pk_le 5 (y / 1024 % 9) (fun q5 => pk_le 7 (y / 1024 % 9) (fun q7 => pk_eq (y / 1024 % 9) 7 (fun e => ?_) (fun e => ?_)) (fun q7 => ?_)) (fun q5 => ?_)) (fun q3 => ?_)
  · have hwr := (inv_write hI (c := y / 65536 % nA a) (m := 2)).1.2.2.1 (y / 65536 % nA a) (by omega)
    have hwr : wri (writeA a (y / 65536 % nA a) 2) (y / 65536 % nA a) ≤ now a (y / 65536 % nA a) := hwr
    have h23 := hb.2.1 (y / 65536 % nA a) (by omega)
    refine pM_becomesWritten h hb (by omega) (by decide) (fun t ht => dn_neg (Nat.lt_of_le_of_lt hwr (by omega)) ?_)
    exact kk _ 1 t (Or.inr (Or.inr (Or.inr (Or.inl ⟨e, rfl, rfl⟩)))) ht
  · refine pM_say hI h hc (fun b r t hr ht => ?_)
    obtain ⟨f1, f2⟩ := fin b r t (fun ok eo => Or.inr (Or.inr (Or.inr (Or.inr ⟨by omega, r, hr, eo⟩)))) ht
    refine dn_full ?_ f1 f2
    rcases hr with ⟨-, -, q⟩ | ⟨q0, -, q⟩
    · exact Or.inl q
    · have := heldN_le (saysA a (y / 65536 % nA a)) (scn a + 1)
      exact Or.inr ⟨_, by omega, q⟩
  · refine pM_get (k := 0) hI h hc (by decide) (fun b r t hr ht => ?_)
    obtain ⟨f1, f2⟩ := fin b r t (fun ok eo => Or.inr (Or.inr (Or.inl ⟨⟨by omega, by omega⟩, r, hr, eo⟩))) ht
    exact ⟨fun z => f1 (if_pos z), fun z => f2 (if_neg z)⟩
  · have e : (nI (y / 65536 % nA a) + (1 : Int32)) - (nI (y / 65536 % nA a) + (1 : Int32)) / μ.1 0 * μ.1 0 = nI ((y / 65536 % nA a + 1) % nA a) := by
      rw [h.1.1, nI_1, pk_rem (by omega) (by omega) (by omega)]
    rw [e]
    refine ⟨?_, ?_⟩
    · rw [h.1.1, nI_lit 0, eqI (by omega) (by decide)]
      omega
    · refine pM_send hI h hc (fun b r t hr ht => ?_)
      obtain ⟨f1, f2⟩ := fin b r t (fun ok eo => Or.inr (Or.inl ⟨⟨by omega, by omega⟩, r, hr, eo⟩)) ht
      refine dn_full ?_ f1 f2
      rcases hr with ⟨-, -, q⟩ | ⟨q0, -, q⟩
      · exact Or.inl q
      · exact Or.inr ⟨_, by omega, q⟩
  · refine pM_work hI h hc (by omega) (fun b r t hr ht => ?_)
    obtain ⟨f1, f2⟩ := fin b r t (fun ok eo => Or.inl ⟨q3, r, hr, eo⟩) ht
    refine dn_full ?_ f1 f2
    have h23 := hb.2.1 (y / 65536 % nA a) (by omega)
    rcases hr with ⟨-, -, q⟩ | ⟨q0, -, q⟩
    · exact Or.inl q
    · exact Or.inr ⟨_, by omega, q⟩
theorem lM_draw {a : AS} {s m : Nat} (hI : Inv a) (hs : s < 2147483648) (hm : m ≤ 60) {Φ : Int32 → St → Prop} (kk : ∀ b x c t, DrN a s m b x c → RepM b t → Φ (nI c) t) :
    ∀ (N i : Nat) (b : AS) (x c : Nat) (t : St), i ≤ m → m - i < N → DrN a s i b x c → RepM b t → wlX10_draw_42 Φ N (nI m) (lN x) (nI c) (nI i) t := by
  intro N
  induction N with
  | zero => intro i b x c t h1 h2; omega
  | succ N ih =>
    intro i b x c t hi hN hD h
    obtain ⟨hIb, hK, hx, hc⟩ := drn_ok hI hs i b x c hD
    have hn := hIb.1.1
    show wlX10_draw_42_body Φ (wlX10_draw_42 Φ N) (nI m) (lN x) (nI c) (nI i) t
    unfold wlX10_draw_42_body wbX10_draw_108
    refine pk_le m i (fun q => ?_) (fun q y2 e2 => ?_)
    · have e : i = m := by omega
      subst e
      exact kk b x c t hD h
    · rw [nxtL hx] at e2
      subst e2
      have hy := nxt_lt x
      rw [h.1.1]
      have en : (nI (nA b)).toInt64 = lN (nA b) := nI_l (by omega)
      rw [en, show (65536 : Int64) = lN 65536 from rfl, show (1024 : Int64) = lN 1024 from rfl, show (9 : Int64) = lN 9 from rfl, show (32768 : Int64) = lN 32768 from rfl, show (1000 : Int64) = lN 1000 from rfl, remL (by omega) (by decide) (by decide) (by omega) (by omega), remL (by omega) (by decide) (by decide) (by decide) (by decide), remL (by omega) (by decide) (by decide) (by decide) (by decide)]
      refine ⟨?_, ?_⟩
      · rw [show (0 : Int64) = lN 0 from rfl, pk_lEQ (by omega) (by decide)]
        omega
      refine pM_draws hIb h (fun b' ok t' hd ht' => ?_)
      obtain ⟨-, ok1⟩ := draw_kpt hd
      have rest : ∀ y1 : Int32, y1 = nI c + nI ok → (∀ y2 : Int32, y2 = nI i + (1 : Int32) → wlX10_draw_42 Φ N (nI m) (lN (nxt x)) y1 y2 t') := by
        intro y1 e1 y2 e2
        rw [e1, e2, addI, nI_1]
        exact ih (i + 1) b' (nxt x) (c + ok) t' (by omega) (by omega) ⟨b, x, c, ok, hD, rfl, hd, rfl⟩ ht'
      rcases (show ok = 0 ∨ ok = 1 by omega) with rfl | rfl
      · exact ⟨fun _ => rest, fun z => absurd rfl z⟩
      · exact ⟨fun z => absurd z (by decide), fun _ => rest⟩
def DrwR (a : AS) (s m : Nat) (b : AS) (r : Int32) : Prop := ∃ x c, DrN (beginA a (nA a)) s m b x c ∧ r = nI c
theorem pW_draw {a : AS} {μ : St} (hI : Inv a) (h : RepM a μ) {x1 x2 : Int32} {Φ : Int32 → St → Prop} (kk : Kn RepM (CRg (inn 0 999999 x1 ∧ inn 1 60 x2) (DrwR a (cl x1) (cl x2)) a) Φ) : wpX10_draw x1 x2 μ Φ := by
  unfold wpX10_draw wbX10_draw_24
  have hn := hI.1.1
  have bad : ¬ (inn 0 999999 x1 ∧ inn 1 60 x2) → wpX10_bad μ (fun r2 t1 => Φ r2 t1) := fun q => pM_bad h (fun t ht => kk _ _ t (crg_bad q) ht)
  refine pM_in (lo := nI 0) (hi := nI 999999) (brB (fun q => bad (fun z => q z.1)) (fun q => ?_))
  refine pM_in (lo := nI 1) (hi := nI 60) (brB (fun q2 => bad (fun z => q2 z.2)) (fun q2 y7 e7 => ?_))
  have g : inn 0 999999 x1 ∧ inn 1 60 x2 := ⟨q, q2⟩
  obtain ⟨s, h1, h2, rfl⟩ := inn_nI (by decide) (by decide) q
  obtain ⟨m, h3, h4, rfl⟩ := inn_nI (by decide) (by decide) q2
  rw [cl_nI (n := s) (by omega), cl_nI (n := m) (by omega)] at kk
  obtain ⟨hh1, hh2, hh3, hh4, hh5, ⟨c0, c1, c2, c3⟩, hh7⟩ := id h
  refine pM_begins (a := a) (v := nA a) h.1.1 ⟨c1, c2, c3⟩ hh7 (fun t ht => ⟨m + 1, ?_⟩)
  have hIb : Inv (beginA a (nA a)) := inv_begin hI hn.1 hn.2
  rw [e7, nI_l (by omega)]
  refine lM_draw (m := m) (s := s) hIb (by omega) h4 (fun b x c t hD ht => ?_) (m + 1) 0 (beginA a (nA a)) s 0 t (Nat.zero_le _) (by omega) ⟨rfl, rfl, rfl⟩ ht
  obtain ⟨-, -, -, hc⟩ := drn_ok hIb (by omega) m b x c hD
  exact kk _ _ t (crg_id g ⟨x, c, hD, rfl⟩ (cnt_nI (by omega) _)) ht
-- the digest
def fld (f : Nat → Int64) (h : Int64) : Nat → Int64
  | 0 => h
  | k + 1 => 31 * fld f h k + f k
def fl2 (g : Nat → Int64 → Int64) (h : Int64) : Nat → Int64
  | 0 => h
  | k + 1 => g k (fl2 g h k)
noncomputable def dg1 (a : AS) : Int64 := fld (fun w => (nI (toldA a w)).toInt64) 2099 10
noncomputable def dgc (a : AS) (c : Nat) (h : Int64) : Int64 := fld (fun w => (nI (ofA a c w)).toInt64) h 8
noncomputable def dgs (a : AS) (k : Nat) (h : Int64) : Int64 := fld (fun w => (sayA a k w).toInt64) h 4
noncomputable def dg2 (a : AS) : Int64 := fl2 (dgc a) (dg1 a) (nA a)
noncomputable def dg3 (a : AS) : Int64 := fl2 (dgs a) (dg2 a) (scn a)
theorem pW_digest {a : AS} {μ : St} (hI : Inv a) (h : RepM a μ) {Φ : Int64 → St → Prop} (kk : Φ (dg3 a) μ) : wpX10_digest μ Φ := by
  unfold wpX10_digest
  have hn := hI.1.1
  have hsc := hI.1.2.2.2.2.2.2.1
  have l91 : ∀ (K : Int64 → Int32 → St → Prop) (k : Nat) (g : Int64), k < scn a → K (dgs a k g) (nI (k + 1)) μ → ∀ (N w : Nat), w ≤ 4 → 4 - w < N → wlX10_digest_91 Φ K N (fld (fun w => (sayA a k w).toInt64) g w) (nI k) (nI w) μ := by
    intro K k g hk hK N
    induction N with
    | zero => intro w h1 h2; omega
    | succ N ih =>
      intro w hw hN
      show wlX10_digest_91_body Φ K (wlX10_digest_91 Φ K N) _ (nI k) (nI w) μ
      unfold wlX10_digest_91_body
      refine pk_le 4 w (fun q y2 e2 => ?_) (fun q => ?_)
      · have e : w = 4 := by omega
        subst e
        rw [e2, nI_1]
        exact hK
      · refine pM_sayingOf hI h hk (by omega) (fun y5 e5 y6 e6 => ?_)
        rw [e5, e6, nI_1]
        exact ih (w + 1) (by omega) (by omega)
  have l80 : ∀ (N k : Nat), k ≤ scn a → scn a - k < N → wlX10_digest_80 Φ N (fl2 (dgs a) (dg2 a) k) (nI k) μ := by
    intro N
    induction N with
    | zero => intro k h1 h2; omega
    | succ N ih =>
      intro k hk hN
      show wlX10_digest_80_body Φ (wlX10_digest_80 Φ N) _ (nI k) μ
      unfold wlX10_digest_80_body
      rw [h.2.2.2.2.1.1]
      refine pk_le (scn a) k (fun q => ?_) (fun q => ⟨5, ?_⟩)
      · have e : k = scn a := by omega
        subst e
        exact kk
      · exact l91 _ k _ q (ih (k + 1) (by omega) (by omega)) 5 0 (by omega) (by omega)
  have l44 : ∀ (K : Int64 → Int32 → St → Prop) (c : Nat) (g : Int64), c < nA a → K (dgc a c g) (nI (c + 1)) μ → ∀ (N w : Nat), w ≤ 8 → 8 - w < N → wlX10_digest_44 Φ K N (fld (fun w => (nI (ofA a c w)).toInt64) g w) (nI c) (nI w) μ := by
    intro K c g hc hK N
    induction N with
    | zero => intro w h1 h2; omega
    | succ N ih =>
      intro w hw hN
      show wlX10_digest_44_body Φ K (wlX10_digest_44 Φ K N) _ (nI c) (nI w) μ
      unfold wlX10_digest_44_body
      refine pk_le 8 w (fun q y2 e2 => ?_) (fun q => ?_)
      · have e : w = 8 := by omega
        subst e
        rw [e2, nI_1]
        exact hK
      · refine pM_clerkOf h hI.1 hI.2.1 hI.2.2.1 hc (by omega) (fun y5 e5 y6 e6 => ?_)
        rw [e5, e6, nI_1]
        exact ih (w + 1) (by omega) (by omega)
  have l33 : ∀ (N c : Nat), c ≤ nA a → nA a - c < N → wlX10_digest_33 Φ N (fl2 (dgc a) (dg1 a) c) (nI c) μ := by
    intro N
    induction N with
    | zero => intro c h1 h2; omega
    | succ N ih =>
      intro c hc hN
      show wlX10_digest_33_body Φ (wlX10_digest_33 Φ N) _ (nI c) μ
      unfold wlX10_digest_33_body
      rw [h.1.1]
      refine pk_le (nA a) c (fun q => ⟨scn a + 1, ?_⟩) (fun q => ⟨9, ?_⟩)
      · have e : c = nA a := by omega
        subst e
        exact l80 (scn a + 1) 0 (Nat.zero_le _) (by omega)
      · exact l44 _ c _ q (ih (c + 1) (by omega) (by omega)) 9 0 (by omega) (by omega)
  have l6 : ∀ (N w : Nat), w ≤ 10 → 10 - w < N → wlX10_digest_6 Φ N (fld (fun w => (nI (toldA a w)).toInt64) 2099 w) (nI w) μ := by
    intro N
    induction N with
    | zero => intro w h1 h2; omega
    | succ N ih =>
      intro w hw hN
      show wlX10_digest_6_body Φ (wlX10_digest_6 Φ N) _ (nI w) μ
      unfold wlX10_digest_6_body
      refine pk_le 10 w (fun q => ⟨nA a + 1, ?_⟩) (fun q => ?_)
      · have e : w = 10 := by omega
        subst e
        exact l33 (nA a + 1) 0 (Nat.zero_le _) (by omega)
      · refine pM_toldOf hI h (by omega) (fun y5 e5 y6 e6 => ?_)
        rw [e5, e6, nI_1]
        exact ih (w + 1) (by omega) (by omega)
  exact ⟨11, l6 11 0 (by omega) (by omega)⟩
