-- THE CALLS, as relations
abbrev cl (x : Int32) : Nat := x.toNatClampNeg
theorem cl_nI {n : Nat} (h : n < 2 ^ 31) : cl (nI n) = n := nI_clamp h
theorem nI_pos0 {n : Nat} (h : n < 2 ^ 31) : (0 : Int32) ≤ nI n := (nI_leI (a := 0) (by decide) h).mpr (Nat.zero_le n)
/-- a number from 0 on is a natural one -/
theorem pos_nI {x : Int32} (h : ¬ x < 0) : ∃ n : Nat, n < 2 ^ 31 ∧ x = nI n := by
  have h1 : ¬ x.toInt < 0 := fun q => h (Int32.lt_iff_toInt_lt.mpr q)
  have h2 := x.toInt_lt
  refine ⟨x.toInt.toNat, by omega, ?_⟩
  apply Int32.toInt_inj.mp
  rw [nI_toInt (by omega)]
  omega
def isC (a : AS) (x : Int32) : Prop := ∃ c, c < nA a ∧ x = nI c
abbrev inn (lo hi : Nat) (x : Int32) : Prop := nI lo ≤ x ∧ x ≤ nI hi
theorem inn_nI {lo hi : Nat} {x : Int32} (hl : lo < 2 ^ 31) (hh : hi < 2 ^ 31) (h : inn lo hi x) : ∃ j : Nat, lo ≤ j ∧ j ≤ hi ∧ x = nI j := inR rfl rfl hl hh h
/-- counted, if it is a refusal -/
def cntA (r : Int32) (a : AS) : AS := if r = -2 then badA a else if r = -3 then noA a else if r = -4 then fullA a else a
theorem cnt_2 (a : AS) : cntA (-2) a = badA a := rfl
theorem cnt_3 (a : AS) : cntA (-3) a = noA a := rfl
theorem cnt_4 (a : AS) : cntA (-4) a = fullA a := rfl
theorem cnt_1 (a : AS) : cntA (-1) a = a := rfl
theorem cnt_nI {k : Nat} (h : k < 2 ^ 31) (a : AS) : cntA (nI k) a = a := by
  unfold cntA
  rw [if_neg (by rw [neI2 h]; exact fun z => z), if_neg (by rw [neI3 h]; exact fun z => z), if_neg (by rw [neI4 h]; exact fun z => z)]
theorem cnt_b {P : Prop} (a : AS) : cntA (b01 P) a = a := by
  by_cases h : P
  · rw [b01_t h]; rfl
  · rw [b01_f h]; rfl
/-- a counter's step -/
def StC (a b : AS) : Prop := bdn b ≤ bdn a + 1 ∧ non b ≤ non a + 1 ∧ fln b ≤ fln a + 1 ∧ gon b ≤ gon a + 7000
def Ste (a b : AS) : Prop := bdn b = bdn a ∧ non b = non a ∧ fln b = fln a ∧ gon b ≤ gon a + 7000
theorem ste_0 (a : AS) : Ste a a := ⟨rfl, rfl, rfl, Nat.le_add_right _ _⟩
theorem stp_e {a b : AS} (h : Ste a b) : StC a b := by
  obtain ⟨h1, h2, h3, h4⟩ := h
  exact ⟨by omega, by omega, by omega, h4⟩
theorem stp_cnt {a b : AS} (h : Ste a b) (r : Int32) : StC a (cntA r b) := by
  obtain ⟨h1, h2, h3, h4⟩ := h
  unfold cntA
  by_cases q : r = -2
  · rw [if_pos q]
    exact ⟨by show bdn b + 1 ≤ _; omega, by show non b ≤ _; omega, by show fln b ≤ _; omega, h4⟩
  · rw [if_neg q]
    by_cases q : r = -3
    · rw [if_pos q]
      exact ⟨by show bdn b ≤ _; omega, by show non b + 1 ≤ _; omega, by show fln b ≤ _; omega, h4⟩
    · rw [if_neg q]
      by_cases q : r = -4
      · rw [if_pos q]
        exact ⟨by show bdn b ≤ _; omega, by show non b ≤ _; omega, by show fln b + 1 ≤ _; omega, h4⟩
      · rw [if_neg q]
        exact ⟨by omega, by omega, by omega, h4⟩
theorem inv_cnt {b : AS} (h : Inv b) (r : Int32) : Inv (cntA r b) := by
  unfold cntA
  by_cases q : r = -2
  · rw [if_pos q]; exact inv_bad h
  · rw [if_neg q]
    by_cases q : r = -3
    · rw [if_pos q]; exact inv_no h
    · rw [if_neg q]
      by_cases q : r = -4
      · rw [if_pos q]; exact inv_full h
      · rw [if_neg q]; exact h
/-- a call: refused as bad, or what P says, counted -/
def CRg (G : Prop) (P : AS → Int32 → Prop) (a b : AS) (r : Int32) : Prop := (G ∧ ∃ b', P b' r ∧ b = cntA r b') ∨ (¬ G ∧ b = badA a ∧ r = -2)
theorem crg_bad {G : Prop} {P : AS → Int32 → Prop} {a : AS} (h : ¬ G) : CRg G P a (badA a) (-2) := Or.inr ⟨h, rfl, rfl⟩
theorem crg_ok {G : Prop} {P : AS → Int32 → Prop} {a b' : AS} {r : Int32} (h : G) (hp : P b' r) : CRg G P a (cntA r b') r := Or.inl ⟨h, b', hp, rfl⟩
theorem crg_id {G : Prop} {P : AS → Int32 → Prop} {a b' : AS} {r : Int32} (h : G) (hp : P b' r) (e : cntA r b' = b') : CRg G P a b' r := Or.inl ⟨h, b', hp, e.symm⟩
theorem crg_uq {G : Prop} {P : AS → Int32 → Prop} {a b b' : AS} {r r' : Int32} (hu : G → ∀ b b' r r', P b r → P b' r' → b = b' ∧ r = r') (h : CRg G P a b r) (h' : CRg G P a b' r') : b = b' ∧ r = r' := by
  rcases h with ⟨g, c, h1, h2⟩ | ⟨g, h1, h2⟩ <;> rcases h' with ⟨g', c', h1', h2'⟩ | ⟨g', h1', h2'⟩
  · obtain ⟨e1, e2⟩ := hu g _ _ _ _ h1 h1'
    subst e1 e2
    exact ⟨h2.trans h2'.symm, rfl⟩
  · exact absurd g g'
  · exact absurd g' g
  · exact ⟨h1.trans h1'.symm, h2.trans h2'.symm⟩
theorem crg_inv {G : Prop} {P : AS → Int32 → Prop} {a b : AS} {r : Int32} (hI : Inv a) (hp : G → ∀ b r, P b r → Inv b ∧ Ste a b) (h : CRg G P a b r) : Inv b ∧ StC a b := by
  rcases h with ⟨g, c, h1, h2⟩ | ⟨g, h1, h2⟩
  · obtain ⟨i, s⟩ := hp g _ _ h1
    rw [h2]
    exact ⟨inv_cnt i r, stp_cnt s r⟩
  · rw [h1]
    exact ⟨inv_bad hI, stp_cnt (ste_0 a) (-2)⟩
/-- the bounds of the counters -/
def Cn (i : Nat) (a : AS) : Prop := bdn a ≤ i ∧ non a ≤ i ∧ fln a ≤ i ∧ gon a ≤ 10000 * i
theorem cn_stp {i : Nat} {a b : AS} (h : Cn i a) (s : StC a b) : Cn (i + 5) b := by
  obtain ⟨h1, h2, h3, h4⟩ := h
  obtain ⟨s1, s2, s3, s4⟩ := s
  exact ⟨by omega, by omega, by omega, by omega⟩
/-- class and reference stand alike -/
def Rl (i : Nat) (σ μ : St) : Prop := ∃ a, Inv a ∧ Cn i a ∧ RepC a σ ∧ RepM a μ
theorem rl_mono {i : Nat} {σ μ : St} (h : Rl i σ μ) : Rl (i + 5) σ μ := by
  obtain ⟨a, h1, ⟨c1, c2, c3, c4⟩, h3, h4⟩ := h
  exact ⟨a, h1, ⟨by omega, by omega, by omega, by omega⟩, h3, h4⟩
theorem sim_of {α : Type} {i : Nat} {σ μ : St} (h : Rl i σ μ) {wC wM : (α → St → Prop) → Prop} (CR : AS → AS → α → Prop) (hC : ∀ a, Inv a → Cn i a → RepC a σ → ∀ Φ : α → St → Prop, (∀ b r t, CR a b r → RepC b t → Φ r t) → wC Φ) (hM : ∀ a, Inv a → Cn i a → RepM a μ → ∀ Φ : α → St → Prop, (∀ b r t, CR a b r → RepM b t → Φ r t) → wM Φ) (huq : ∀ a b b' r r', CR a b r → CR a b' r' → b = b' ∧ r = r') (hinv : ∀ a b r, Inv a → CR a b r → Inv b ∧ StC a b) : wC (fun r t => wM (fun q t' => r = q ∧ Rl (i + 5) t t')) := by
  obtain ⟨a, hI, hc, h1, h2⟩ := h
  refine hC a hI hc h1 _ (fun b r t hcr ht => hM a hI hc h2 _ (fun b' r' t' hcr' ht' => ?_))
  obtain ⟨e1, e2⟩ := huq a b b' r r' hcr hcr'
  subst e1 e2
  obtain ⟨i1, i2⟩ := hinv a b r hI hcr
  exact ⟨rfl, b, i1, cn_stp hc i2, ht, ht'⟩
-- what the calls answer
noncomputable def pgV (a : AS) (c k d w : Nat) : Int32 := if frm a c ≤ k ∧ k ≤ now a c then (if w = 0 then nI (pgl a c k) else if w = 1 then nI (pgs a c k) else if w = 2 then nI (rsl a c k d) else nI (rsp a c k d)) else -3
noncomputable def enV (a : AS) (c l : Nat) : Int32 := if l < life a c then nI (ends a c l) else -1
noncomputable def ltV (a : AS) (m w : Nat) : Int32 := if w = 0 then nI (lby a m) else if w = 1 then nI (lsm a m) else if w = 2 then b01 (deadL a m) else nI (lrp a m (lby a m))
noncomputable def syV (a : AS) (k w : Nat) : Int32 := if k < scn a then sayA a k w else -1
noncomputable def rlV (a : AS) (k : Nat) : Int32 := if k < rcn a then nI (rel a k) else -1
noncomputable def wdV (a : AS) (c w : Nat) : Nat := if w = 0 then goneOf a c (nA a) else if w = 1 then fellN a c (nA a) else lostN a c (scn a)
noncomputable def wsV2 (a : AS) (w : Nat) : Nat := if w = 0 then wst a (nA a) else goneOf a (wst a (nA a)) (nA a)
def Fx (b0 : AS) (r0 : Int32) (b : AS) (r : Int32) : Prop := b = b0 ∧ r = r0
theorem fx_uq {b0 : AS} {r0 : Int32} (b b' : AS) (r r' : Int32) (h : Fx b0 r0 b r) (h' : Fx b0 r0 b' r') : b = b' ∧ r = r' := ⟨h.1.trans h'.1.symm, h.2.trans h'.2.symm⟩
def LetR (a : AS) (d k w : Nat) (b : AS) (r : Int32) : Prop := b = a ∧ ((∃ m, isNth a d k m ∧ r = ltV a m w) ∨ ((∀ m, ¬ isNth a d k m) ∧ r = -1))
theorem let_uq {a : AS} {d k w : Nat} {b b' : AS} {r r' : Int32} (h : LetR a d k w b r) (h' : LetR a d k w b' r') : b = b' ∧ r = r' := by
  obtain ⟨h1, h2⟩ := h
  obtain ⟨g1, g2⟩ := h'
  refine ⟨h1.trans g1.symm, ?_⟩
  rcases h2 with ⟨m, hm, h2⟩ | ⟨hm, h2⟩ <;> rcases g2 with ⟨m', hm', g2⟩ | ⟨hm', g2⟩
  · rw [nth_uq hm hm'] at h2
    exact h2.trans g2.symm
  · exact absurd hm (hm' m)
  · exact absurd hm' (hm m')
  · exact h2.trans g2.symm
def TypR (a : AS) (v : Nat) (b : AS) (r : Int32) : Prop := (tln a = 120 ∧ b = a ∧ r = -4) ∨ (tln a < 120 ∧ b = typeA a v ∧ r = nI (tln a + 1))
theorem typ_uq {a : AS} {v : Nat} {b b' : AS} {r r' : Int32} (h : TypR a v b r) (h' : TypR a v b' r') : b = b' ∧ r = r' := by
  rcases h with ⟨h1, h2, h3⟩ | ⟨h1, h2, h3⟩ <;> rcases h' with ⟨g1, g2, g3⟩ | ⟨g1, g2, g3⟩
  · exact ⟨h2.trans g2.symm, h3.trans g3.symm⟩
  · omega
  · omega
  · exact ⟨h2.trans g2.symm, h3.trans g3.symm⟩
-- draws
def nxt (x : Nat) : Nat := (x * 1103515245 + 12345) % 2147483648
theorem nxt_lt (x : Nat) : nxt x < 2147483648 := Nat.mod_lt _ (by decide)
def DrawR (y : Nat) (a b : AS) (ok : Nat) : Prop :=
  (y / 1024 % 9 < 3 ∧ ∃ r, WorkR (y / 65536 % nA a) (y / 32768 % 1000) a b r ∧ ok = dnN r) ∨ ((3 ≤ y / 1024 % 9 ∧ y / 1024 % 9 < 5) ∧ ∃ r, SendR (y / 65536 % nA a) ((y / 65536 % nA a + 1) % nA a) a b r ∧ ok = dnN r) ∨ ((5 ≤ y / 1024 % 9 ∧ y / 1024 % 9 < 7) ∧ ∃ r, GetR (y / 65536 % nA a) 0 a b r ∧ ok = dnN r) ∨ (y / 1024 % 9 = 7 ∧ b = writeA a (y / 65536 % nA a) 2 ∧ ok = 1) ∨ (y / 1024 % 9 = 8 ∧ ∃ r, SayR (y / 65536 % nA a) a b r ∧ ok = dnN r)
theorem draw_uq {y : Nat} {a b b' : AS} {ok ok' : Nat} (h : DrawR y a b ok) (h' : DrawR y a b' ok') : b = b' ∧ ok = ok' := by
  rcases h with ⟨e, r, h, rfl⟩ | ⟨e, r, h, rfl⟩ | ⟨e, r, h, rfl⟩ | ⟨e, h, rfl⟩ | ⟨e, r, h, rfl⟩
  · rcases h' with ⟨e', r', h', rfl⟩ | ⟨e', h'⟩ | ⟨e', h'⟩ | ⟨e', h'⟩ | ⟨e', h'⟩
    · obtain ⟨q1, q2⟩ := work_uq h h'
      exact ⟨q1, by rw [q2]⟩
    all_goals omega
  · rcases h' with ⟨e', h'⟩ | ⟨e', r', h', rfl⟩ | ⟨e', h'⟩ | ⟨e', h'⟩ | ⟨e', h'⟩
    · omega
    · obtain ⟨q1, q2⟩ := send_uq h h'
      exact ⟨q1, by rw [q2]⟩
    all_goals omega
  · rcases h' with ⟨e', h'⟩ | ⟨e', h'⟩ | ⟨e', r', h', rfl⟩ | ⟨e', h'⟩ | ⟨e', h'⟩
    · omega
    · omega
    · obtain ⟨q1, q2⟩ := get_uq h h'
      exact ⟨q1, by rw [q2]⟩
    all_goals omega
  · rcases h' with ⟨e', h'⟩ | ⟨e', h'⟩ | ⟨e', h'⟩ | ⟨e', h', rfl⟩ | ⟨e', h'⟩
    · omega
    · omega
    · omega
    · exact ⟨h.trans h'.symm, rfl⟩
    · omega
  · rcases h' with ⟨e', h'⟩ | ⟨e', h'⟩ | ⟨e', h'⟩ | ⟨e', h'⟩ | ⟨e', r', h', rfl⟩
    · omega
    · omega
    · omega
    · omega
    · obtain ⟨q1, q2⟩ := say_uq h h'
      exact ⟨q1, by rw [q2]⟩
theorem draw_kpt {y : Nat} {a b : AS} {ok : Nat} (h : DrawR y a b ok) : Kpt a b ∧ ok ≤ 1 := by
  have D : ∀ r, dnN r ≤ 1 := fun r => by
    unfold dnN
    by_cases q : r < -1
    · rw [if_pos q]; decide
    · rw [if_neg q]; decide
  rcases h with ⟨e, r, h, rfl⟩ | ⟨e, r, h, rfl⟩ | ⟨e, r, h, rfl⟩ | ⟨e, rfl, rfl⟩ | ⟨e, r, h, rfl⟩
  · exact ⟨kpt_work h, D r⟩
  · exact ⟨kpt_send h, D r⟩
  · exact ⟨kpt_get h, D r⟩
  · exact ⟨⟨rfl, rfl, rfl, rfl⟩, Nat.le_refl 1⟩
  · exact ⟨kpt_say h, D r⟩
theorem draw_inv {y : Nat} {a b : AS} {ok : Nat} (hI : Inv a) (h : DrawR y a b ok) : Inv b := by
  have hn := hI.1.1
  have hc : y / 65536 % nA a < nA a := Nat.mod_lt _ (by omega)
  have hd : (y / 65536 % nA a + 1) % nA a < nA a := Nat.mod_lt _ (by omega)
  rcases h with ⟨e, r, h, rfl⟩ | ⟨e, r, h, rfl⟩ | ⟨e, r, h, rfl⟩ | ⟨e, rfl, rfl⟩ | ⟨e, r, h, rfl⟩
  · exact inv_work hI hc h
  · exact inv_sendR hI hc hd h
  · exact inv_get hI hc h
  · exact inv_write hI
  · exact inv_say hI hc h
/-- m draws, from a with the seed s: b, the last number x, c could be done -/
def DrN (a : AS) (s : Nat) : Nat → AS → Nat → Nat → Prop
  | 0, b, x, c => b = a ∧ x = s ∧ c = 0
  | m + 1, b, x, c => ∃ b' x' c' ok, DrN a s m b' x' c' ∧ x = nxt x' ∧ DrawR (nxt x') b' b ok ∧ c = c' + ok
theorem drn_uq {a : AS} {s : Nat} : ∀ (m : Nat) (b b2 : AS) (x x2 c c2 : Nat), DrN a s m b x c → DrN a s m b2 x2 c2 → b = b2 ∧ x = x2 ∧ c = c2 := by
  intro m
  induction m with
  | zero => intro b b2 x x2 c c2 h h2; exact ⟨h.1.trans h2.1.symm, h.2.1.trans h2.2.1.symm, h.2.2.trans h2.2.2.symm⟩
  | succ m ih =>
    intro b b2 x x2 c c2 h h2
    obtain ⟨b', x', c', ok, q1, q2, q3, q4⟩ := h
    obtain ⟨d', y', e', ok', r1, r2, r3, r4⟩ := h2
    obtain ⟨i1, i2, i3⟩ := ih _ _ _ _ _ _ q1 r1
    subst i1 i2 i3
    obtain ⟨j1, j2⟩ := draw_uq q3 r3
    subst j1 j2
    exact ⟨rfl, q2.trans r2.symm, q4.trans r4.symm⟩
theorem drn_ok {a : AS} {s : Nat} (hI : Inv a) (hs : s < 2147483648) : ∀ (m : Nat) (b : AS) (x c : Nat), DrN a s m b x c → Inv b ∧ Kpt a b ∧ x < 2147483648 ∧ c ≤ m := by
  intro m
  induction m with
  | zero =>
    intro b x c h
    rw [h.1, h.2.1, h.2.2]
    exact ⟨hI, kpt_0 a, hs, Nat.le_refl 0⟩
  | succ m ih =>
    intro b x c h
    obtain ⟨b', x', c', ok, q1, q2, q3, q4⟩ := h
    obtain ⟨i1, i2, i3, i4⟩ := ih _ _ _ q1
    obtain ⟨j1, j2⟩ := draw_kpt q3
    exact ⟨draw_inv i1 q3, kpt_t i2 j1, by rw [q2]; exact nxt_lt _, by omega⟩
-- what the counters do
theorem ste_work {c x : Nat} {a b : AS} {r : Int32} (h : WorkR c x a b r) : Ste a b := by
  rcases h with ⟨-, rfl, -⟩ | ⟨-, rfl, -⟩
  · exact ste_0 _
  · exact ⟨rfl, rfl, rfl, Nat.le_add_right _ _⟩
theorem ste_send {c d : Nat} {a b : AS} {r : Int32} (h : SendR c d a b r) : Ste a b := by
  rcases h with ⟨-, rfl, -⟩ | ⟨-, rfl, -⟩
  · exact ste_0 _
  · exact ⟨rfl, rfl, rfl, Nat.le_add_right _ _⟩
theorem ste_say {c : Nat} {a b : AS} {r : Int32} (h : SayR c a b r) : Ste a b := by
  rcases h with ⟨-, rfl, -⟩ | ⟨-, rfl, -⟩
  · exact ste_0 _
  · exact ⟨rfl, rfl, rfl, Nat.le_add_right _ _⟩
theorem ste_get {d k : Nat} {a b : AS} {r : Int32} (h : GetR d k a b r) : Ste a b := by
  rcases h with ⟨-, rfl, -⟩ | ⟨m, -, ⟨-, rfl, -⟩ | ⟨-, -, rfl, -⟩ | ⟨-, -, rfl, -⟩⟩
  · exact ste_0 _
  · exact ⟨rfl, rfl, rfl, Nat.le_add_right _ _⟩
  · exact ste_0 _
  · exact ⟨rfl, rfl, rfl, Nat.le_add_right _ _⟩
/-- the counters stay, but gone grows by at most g -/
def Stg (g : Nat) (a b : AS) : Prop := b 23 = a 23 ∧ b 24 = a 24 ∧ b 25 = a 25 ∧ gon b ≤ gon a + g
theorem stg_e {g : Nat} {a b : AS} (h : Stg g a b) (hg : g ≤ 7000) : Ste a b := by
  obtain ⟨h1, h2, h3, h4⟩ := h
  exact ⟨by show b 23 0 0 0 = _; rw [h1], by show b 24 0 0 0 = _; rw [h2], by show b 25 0 0 0 = _; rw [h3], by omega⟩
theorem stg_t {g g' : Nat} {a b c : AS} (h : Stg g a b) (h' : Stg g' b c) : Stg (g + g') a c := ⟨h'.1.trans h.1, h'.2.1.trans h.2.1, h'.2.2.1.trans h.2.2.1, by have := h.2.2.2; have := h'.2.2.2; omega⟩
theorem stg_0 (a : AS) (g : Nat) : Stg g a a := ⟨rfl, rfl, rfl, Nat.le_add_right _ _⟩
theorem stg_le {g g' : Nat} {a b : AS} (h : Stg g a b) (hg : g ≤ g') : Stg g' a b := ⟨h.1, h.2.1, h.2.2.1, by have := h.2.2.2; omega⟩
theorem stg_loss {a : AS} (hb : Bd a) (c : Nat) : Stg 115 a (lossA a c) := by
  refine ⟨loss_tag a c 23 (by decide) (by decide) (by decide) (by decide) (by decide) (by decide), loss_tag a c 24 (by decide) (by decide) (by decide) (by decide) (by decide) (by decide), loss_tag a c 25 (by decide) (by decide) (by decide) (by decide) (by decide) (by decide), ?_⟩
  have e : gon (lossA a c) = gon a + goneOf a c (nA a) := by
    show lossA a c 22 0 0 0 = _
    unfold lossA
    rw [if_neg (fun z => absurd z.1 (by decide)), if_neg (fun z => absurd z.1 (by decide)), if_neg (fun z => absurd z.1 (by decide)), if_neg (fun z => absurd z.1 (by decide)), if_neg (fun z => absurd z.1 (by decide)), if_pos rfl]
  have hn := hb.1
  have := goneOf_le hb (c := c) (nA a) hn.2
  omega
theorem stg_cutB (a : AS) : ∀ b, Stg 0 a (cutB a b) := by
  intro b
  induction b with
  | zero => exact stg_0 a 0
  | succ b ih =>
    have h3 : Stg 0 (cutB a b) (cutA (cutB a b) b) := ⟨rfl, rfl, rfl, Nat.le_add_right _ _⟩
    exact stg_t ih h3
theorem stg_rls {b : AS} : ∀ (r : Nat) (a : AS), Rls r a b → Stg 0 a b := by
  intro r
  induction r with
  | zero =>
    intro a h
    rw [← h.1]
    exact stg_0 a 0
  | succ r ih =>
    intro a h
    obtain ⟨k, hk, h2⟩ := h
    have h3 : Stg 0 a (relA a k) := ⟨rfl, rfl, rfl, Nat.le_add_right _ _⟩
    exact stg_t h3 (ih _ h2)
theorem stg_work {c x : Nat} {a b : AS} {r : Int32} (h : WorkR c x a b r) : Stg 115 a b := by
  rcases h with ⟨-, rfl, -⟩ | ⟨-, rfl, -⟩
  · exact stg_0 _ _
  · exact ⟨rfl, rfl, rfl, Nat.le_add_right _ _⟩
theorem stg_send {c d : Nat} {a b : AS} {r : Int32} (h : SendR c d a b r) : Stg 115 a b := by
  rcases h with ⟨-, rfl, -⟩ | ⟨-, rfl, -⟩
  · exact stg_0 _ _
  · exact ⟨rfl, rfl, rfl, Nat.le_add_right _ _⟩
theorem stg_say {c : Nat} {a b : AS} {r : Int32} (h : SayR c a b r) : Stg 115 a b := by
  rcases h with ⟨-, rfl, -⟩ | ⟨-, rfl, -⟩
  · exact stg_0 _ _
  · exact ⟨rfl, rfl, rfl, Nat.le_add_right _ _⟩
theorem stg_get {d k : Nat} {a b : AS} {r : Int32} (h : GetR d k a b r) : Stg 115 a b := by
  rcases h with ⟨-, rfl, -⟩ | ⟨m, -, ⟨-, rfl, -⟩ | ⟨-, -, rfl, -⟩ | ⟨-, -, rfl, -⟩⟩
  · exact stg_0 _ _
  · exact ⟨rfl, rfl, rfl, Nat.le_add_right _ _⟩
  · exact stg_0 _ _
  · exact ⟨rfl, rfl, rfl, Nat.le_add_right _ _⟩
theorem stg_lose {c : Nat} {a b : AS} {r : Int32} (hb : Bd a) (h : LoseR c a b r) : Stg 115 a b := by
  rcases h with ⟨-, rfl, -⟩ | ⟨-, rfl, -⟩
  · exact stg_0 _ _
  · exact stg_loss hb c
theorem stg_do {k u v : Nat} {a b : AS} {ok : Nat} (hb : Bd a) (h : DoR k u v a b ok) : Stg 115 a b := by
  rcases h with ⟨e, r, h, rfl⟩ | ⟨e, r, h, rfl⟩ | ⟨e, r, h, rfl⟩ | ⟨e, rfl, rfl⟩ | ⟨e, r, h, rfl⟩ | ⟨e, r, h, rfl⟩ | ⟨e, ⟨r, h⟩, rfl⟩ | ⟨e, rfl, rfl⟩
  · exact stg_work h
  · exact stg_send h
  · exact stg_get h
  · exact ⟨rfl, rfl, rfl, Nat.le_add_right _ _⟩
  · exact stg_lose hb h
  · exact stg_say h
  · exact stg_le (stg_rls r a h) (by decide)
  · exact stg_le (stg_cutB a _) (by decide)
theorem stg_draw {y : Nat} {a b : AS} {ok : Nat} (h : DrawR y a b ok) : Stg 115 a b := by
  rcases h with ⟨e, r, h, rfl⟩ | ⟨e, r, h, rfl⟩ | ⟨e, r, h, rfl⟩ | ⟨e, rfl, rfl⟩ | ⟨e, r, h, rfl⟩
  · exact stg_work h
  · exact stg_send h
  · exact stg_get h
  · exact ⟨rfl, rfl, rfl, Nat.le_add_right _ _⟩
  · exact stg_say h
theorem stg_drn {a : AS} {s : Nat} : ∀ (m : Nat) (b : AS) (x c : Nat), DrN a s m b x c → Stg (115 * m) a b := by
  intro m
  induction m with
  | zero =>
    intro b x c h
    rw [h.1]
    exact stg_0 a _
  | succ m ih =>
    intro b x c h
    obtain ⟨b', x', c', ok, q1, q2, q3, q4⟩ := h
    exact stg_le (stg_t (ih _ _ _ q1) (stg_draw q3)) (by omega)
theorem stg_dn {a : AS} {tx : Nat → Nat} {L : Nat} (hI : Inv a) : ∀ (m : Nat) (b : AS) (c : Nat), Dn a tx L (nA a) m b c → Stg (115 * m) a b := by
  intro m
  induction m with
  | zero =>
    intro b c h
    rw [h.1]
    exact ⟨rfl, rfl, rfl, Nat.le_add_right _ _⟩
  | succ m ih =>
    intro b c h
    obtain ⟨b', c', k, u, v, p, b'', ok, q1, q2, q3, q4, q5⟩ := h
    have hb' := (dn_inv hI m b' c' q1).1
    have h1 : Stg 115 b' b'' := by
      have := stg_do (a := plcA b' p) hb' q3
      exact ⟨this.1, this.2.1, this.2.2.1, this.2.2.2⟩
    have h2 : Stg 0 b'' b := by
      rw [q4]
      exact ⟨rfl, rfl, rfl, Nat.le_add_right _ _⟩
    exact stg_le (stg_t (stg_t (ih _ _ q1) h1) h2) (by omega)
