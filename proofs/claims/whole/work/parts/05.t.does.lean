-- WHAT IS DONE, as relations: from a to b, with the answer r
def WorkR (c x : Nat) (a b : AS) (r : Int32) : Prop := (now a c = 23 ∧ b = a ∧ r = -4) ∨ (now a c < 23 ∧ b = addA a c x ∧ r = nI (now a c + 1))
def SendR (c d : Nat) (a b : AS) (r : Int32) : Prop := (lcn a = 40 ∧ b = a ∧ r = -4) ∨ (lcn a < 40 ∧ b = sendA a c d ∧ r = nI (lcn a + 1))
def GetR (d k : Nat) (a b : AS) (r : Int32) : Prop := ((∀ m, ¬ isNth a d k m) ∧ b = a ∧ r = -3) ∨ ∃ m, isNth a d k m ∧ ((deadL a m ∧ b = takeA a m ∧ r = -1) ∨ (¬ deadL a m ∧ now a d = 23 ∧ b = a ∧ r = -4) ∨ (¬ deadL a m ∧ now a d < 23 ∧ b = takeA (comeB a d m (nA a)) m ∧ r = nI (now a d + 1)))
def LoseR (c : Nat) (a b : AS) (r : Int32) : Prop := ((∃ d, d < nA a ∧ 60 ≤ life a d) ∧ b = a ∧ r = -4) ∨ (¬ (∃ d, d < nA a ∧ 60 ≤ life a d) ∧ b = lossA a c ∧ r = nI (goneOf a c (nA a)))
def SayR (c : Nat) (a b : AS) (r : Int32) : Prop := (scn a = 30 ∧ b = a ∧ r = -4) ∨ (scn a < 30 ∧ b = saysA a c ∧ r = nI (heldN (saysA a c) (scn a + 1)))
theorem work_uq {c x : Nat} {a b b' : AS} {r r' : Int32} (h : WorkR c x a b r) (h' : WorkR c x a b' r') : b = b' ∧ r = r' := by
  rcases h with ⟨h1, h2, h3⟩ | ⟨h1, h2, h3⟩ <;> rcases h' with ⟨g1, g2, g3⟩ | ⟨g1, g2, g3⟩
  · exact ⟨h2.trans g2.symm, h3.trans g3.symm⟩
  · omega
  · omega
  · exact ⟨h2.trans g2.symm, h3.trans g3.symm⟩
theorem send_uq {c d : Nat} {a b b' : AS} {r r' : Int32} (h : SendR c d a b r) (h' : SendR c d a b' r') : b = b' ∧ r = r' := by
  rcases h with ⟨h1, h2, h3⟩ | ⟨h1, h2, h3⟩ <;> rcases h' with ⟨g1, g2, g3⟩ | ⟨g1, g2, g3⟩
  · exact ⟨h2.trans g2.symm, h3.trans g3.symm⟩
  · omega
  · omega
  · exact ⟨h2.trans g2.symm, h3.trans g3.symm⟩
theorem lose_uq {c : Nat} {a b b' : AS} {r r' : Int32} (h : LoseR c a b r) (h' : LoseR c a b' r') : b = b' ∧ r = r' := by
  rcases h with ⟨h1, h2, h3⟩ | ⟨h1, h2, h3⟩ <;> rcases h' with ⟨g1, g2, g3⟩ | ⟨g1, g2, g3⟩
  · exact ⟨h2.trans g2.symm, h3.trans g3.symm⟩
  · exact absurd h1 g1
  · exact absurd g1 h1
  · exact ⟨h2.trans g2.symm, h3.trans g3.symm⟩
theorem say_uq {c : Nat} {a b b' : AS} {r r' : Int32} (h : SayR c a b r) (h' : SayR c a b' r') : b = b' ∧ r = r' := by
  rcases h with ⟨h1, h2, h3⟩ | ⟨h1, h2, h3⟩ <;> rcases h' with ⟨g1, g2, g3⟩ | ⟨g1, g2, g3⟩
  · exact ⟨h2.trans g2.symm, h3.trans g3.symm⟩
  · omega
  · omega
  · exact ⟨h2.trans g2.symm, h3.trans g3.symm⟩
theorem cntTo_mono (a : AS) (d : Nat) {m : Nat} : ∀ j, m ≤ j → cntTo a d m ≤ cntTo a d j := by
  intro j
  induction j with
  | zero => intro h; rw [Nat.le_zero.mp h]; exact Nat.le_refl _
  | succ j ih =>
    intro h
    by_cases e : m = j + 1
    · rw [e]; exact Nat.le_refl _
    · exact Nat.le_trans (ih (by omega)) (Nat.le_add_right _ _)
theorem nth_lt {a : AS} {d k m m' : Nat} (h : isNth a d k m) (h' : isNth a d k m') (hl : m < m') : False := by
  have h1 := cntTo_mono a d (m := m + 1) m' hl
  have h2 : cntTo a d (m + 1) = cntTo a d m + (if lto a m = d then 1 else 0) := rfl
  rw [if_pos h.2.1] at h2
  have h3 := h.2.2
  have h4 := h'.2.2
  omega
theorem nth_uq {a : AS} {d k m m' : Nat} (h : isNth a d k m) (h' : isNth a d k m') : m = m' := by
  rcases Nat.lt_trichotomy m m' with q | q | q
  · exact (nth_lt h h' q).elim
  · exact q
  · exact (nth_lt h' h q).elim
theorem get_uq {d k : Nat} {a b b' : AS} {r r' : Int32} (h : GetR d k a b r) (h' : GetR d k a b' r') : b = b' ∧ r = r' := by
  rcases h with ⟨h1, h2, h3⟩ | ⟨m, hm, h⟩ <;> rcases h' with ⟨g1, g2, g3⟩ | ⟨m', hm', h'⟩
  · exact ⟨h2.trans g2.symm, h3.trans g3.symm⟩
  · exact absurd hm' (h1 m')
  · exact absurd hm (g1 m)
  · have e := nth_uq hm hm'
    subst e
    rcases h with ⟨h1, h2, h3⟩ | ⟨h1, h0, h2, h3⟩ | ⟨h1, h0, h2, h3⟩ <;> rcases h' with ⟨g1, g2, g3⟩ | ⟨g1, g0, g2, g3⟩ | ⟨g1, g0, g2, g3⟩
    · exact ⟨h2.trans g2.symm, h3.trans g3.symm⟩
    · exact absurd h1 g1
    · exact absurd h1 g1
    · exact absurd g1 h1
    · exact ⟨h2.trans g2.symm, h3.trans g3.symm⟩
    · omega
    · exact absurd g1 h1
    · omega
    · exact ⟨h2.trans g2.symm, h3.trans g3.symm⟩
/-- the text, the place and the number of clerks stay -/
def Kpt (a b : AS) : Prop := nA b = nA a ∧ b 26 = a 26 ∧ b 27 = a 27 ∧ b 28 = a 28
theorem kpt_0 (a : AS) : Kpt a a := ⟨rfl, rfl, rfl, rfl⟩
theorem kpt_t {a b c : AS} (h : Kpt a b) (g : Kpt b c) : Kpt a c := ⟨g.1.trans h.1, g.2.1.trans h.2.1, g.2.2.1.trans h.2.2.1, g.2.2.2.trans h.2.2.2⟩
theorem loss_tag (a : AS) (c t : Nat) (h1 : t ≠ 1) (h2 : t ≠ 2) (h3 : t ≠ 3) (h5 : t ≠ 5) (h19 : t ≠ 19) (h22 : t ≠ 22) : lossA a c t = a t := by
  funext i j k
  unfold lossA
  rw [if_neg (fun z => h1 z.1), if_neg (fun z => h2 z.1), if_neg (fun z => h3 z.1), if_neg (fun z => h5 z.1), if_neg (fun z => h19 z.1), if_neg h22]
theorem kpt_loss (a : AS) (c : Nat) : Kpt a (lossA a c) := ⟨by show lossA a c 0 0 0 0 = _; rw [loss_tag a c 0 (by decide) (by decide) (by decide) (by decide) (by decide) (by decide)], loss_tag a c 26 (by decide) (by decide) (by decide) (by decide) (by decide) (by decide), loss_tag a c 27 (by decide) (by decide) (by decide) (by decide) (by decide) (by decide), loss_tag a c 28 (by decide) (by decide) (by decide) (by decide) (by decide) (by decide)⟩
theorem kpt_cutB (a : AS) : ∀ b, Kpt a (cutB a b) := by
  intro b
  induction b with
  | zero => exact kpt_0 a
  | succ b ih => exact kpt_t ih ⟨rfl, rfl, rfl, rfl⟩
theorem kpt_rls {b : AS} : ∀ (r : Nat) (a : AS), Rls r a b → Kpt a b := by
  intro r
  induction r with
  | zero =>
    intro a h
    rw [← h.1]
    exact kpt_0 a
  | succ r ih =>
    intro a h
    obtain ⟨k, hk, h2⟩ := h
    exact kpt_t (b := relA a k) ⟨rfl, rfl, rfl, rfl⟩ (ih _ h2)
theorem kpt_work {c x : Nat} {a b : AS} {r : Int32} (h : WorkR c x a b r) : Kpt a b := by
  rcases h with ⟨-, rfl, -⟩ | ⟨-, rfl, -⟩
  · exact kpt_0 _
  · exact ⟨rfl, rfl, rfl, rfl⟩
theorem kpt_send {c d : Nat} {a b : AS} {r : Int32} (h : SendR c d a b r) : Kpt a b := by
  rcases h with ⟨-, rfl, -⟩ | ⟨-, rfl, -⟩
  · exact kpt_0 _
  · exact ⟨rfl, rfl, rfl, rfl⟩
theorem kpt_say {c : Nat} {a b : AS} {r : Int32} (h : SayR c a b r) : Kpt a b := by
  rcases h with ⟨-, rfl, -⟩ | ⟨-, rfl, -⟩
  · exact kpt_0 _
  · exact ⟨rfl, rfl, rfl, rfl⟩
theorem kpt_lose {c : Nat} {a b : AS} {r : Int32} (h : LoseR c a b r) : Kpt a b := by
  rcases h with ⟨-, rfl, -⟩ | ⟨-, rfl, -⟩
  · exact kpt_0 _
  · exact kpt_loss _ _
theorem kpt_get {d k : Nat} {a b : AS} {r : Int32} (h : GetR d k a b r) : Kpt a b := by
  rcases h with ⟨-, rfl, -⟩ | ⟨m, -, ⟨-, rfl, -⟩ | ⟨-, -, rfl, -⟩ | ⟨-, -, rfl, -⟩⟩
  · exact kpt_0 _
  · exact ⟨rfl, rfl, rfl, rfl⟩
  · exact kpt_0 _
  · exact ⟨rfl, rfl, rfl, rfl⟩
theorem inv_work {c x : Nat} {a b : AS} {r : Int32} (hI : Inv a) (hc : c < nA a) (h : WorkR c x a b r) : Inv b := by
  rcases h with ⟨-, rfl, -⟩ | ⟨h1, rfl, -⟩
  · exact hI
  · exact inv_add hI hc h1
theorem inv_sendR {c d : Nat} {a b : AS} {r : Int32} (hI : Inv a) (hc : c < nA a) (hd : d < nA a) (h : SendR c d a b r) : Inv b := by
  rcases h with ⟨-, rfl, -⟩ | ⟨h1, rfl, -⟩
  · exact hI
  · exact inv_send hI hc hd h1
theorem inv_say {c : Nat} {a b : AS} {r : Int32} (hI : Inv a) (hc : c < nA a) (h : SayR c a b r) : Inv b := by
  rcases h with ⟨-, rfl, -⟩ | ⟨h1, rfl, -⟩
  · exact hI
  · exact inv_says hI hc h1
theorem inv_lose {c : Nat} {a b : AS} {r : Int32} (hI : Inv a) (hc : c < nA a) (h : LoseR c a b r) : Inv b := by
  rcases h with ⟨-, rfl, -⟩ | ⟨h1, rfl, -⟩
  · exact hI
  · exact inv_loss hI hc h1
theorem inv_get {d k : Nat} {a b : AS} {r : Int32} (hI : Inv a) (hd : d < nA a) (h : GetR d k a b r) : Inv b := by
  rcases h with ⟨-, rfl, -⟩ | ⟨m, hm, ⟨-, rfl, -⟩ | ⟨-, -, rfl, -⟩ | ⟨h1, h2, rfl, -⟩⟩
  · exact hI
  · exact inv_take hI hm.1
  · exact hI
  · exact inv_take (inv_come hI hd hm.1 h1 h2) hm.1
theorem pM_work {a : AS} {μ : St} (hI : Inv a) (h : RepM a μ) {c x : Nat} (hc : c < nA a) (hx : x < 1000003) {Φ : Int32 → St → Prop} (kk : ∀ b r μ', WorkR c x a b r → RepM b μ' → Φ r μ') : wpX10_writesPage (nI c) (nI x) μ Φ := by
  have hn := hI.1.1
  exact pM_writesPage h hI.1 hI.2.1 (by omega) hx (fun q => kk a _ μ (Or.inl ⟨q, rfl, rfl⟩) h) (fun q μ' hμ' => kk _ _ μ' (Or.inr ⟨q, rfl, rfl⟩) hμ')
theorem pM_send {a : AS} {μ : St} (hI : Inv a) (h : RepM a μ) {c d : Nat} (hc : c < nA a) {Φ : Int32 → St → Prop} (kk : ∀ b r μ', SendR c d a b r → RepM b μ' → Φ r μ') : wpX10_sends (nI c) (nI d) μ Φ := by
  have hn := hI.1.1
  exact pM_sends h hI.1 (by omega) (fun q => kk a _ μ (Or.inl ⟨q, rfl, rfl⟩) h) (fun q μ' hμ' => kk _ _ μ' (Or.inr ⟨q, rfl, rfl⟩) hμ')
theorem pM_get {a : AS} {μ : St} (hI : Inv a) (h : RepM a μ) {d k : Nat} (hd : d < nA a) (hk : k < 2 ^ 31) {Φ : Int32 → St → Prop} (kk : ∀ b r μ', GetR d k a b r → RepM b μ' → Φ r μ') : wpX10_gets (nI d) (nI k) μ Φ :=
  pM_gets h hI.1 hI.2.1 hd hk (fun q => kk a _ μ (Or.inl ⟨q, rfl, rfl⟩) h) (fun m hm q μ' hμ' => kk _ _ μ' (Or.inr ⟨m, hm, Or.inl ⟨q, rfl, rfl⟩⟩) hμ') (fun m hm q q2 => kk a _ μ (Or.inr ⟨m, hm, Or.inr (Or.inl ⟨q, q2, rfl, rfl⟩)⟩) h) (fun m hm q q2 μ' hμ' => kk _ _ μ' (Or.inr ⟨m, hm, Or.inr (Or.inr ⟨q, q2, rfl, rfl⟩)⟩) hμ')
theorem pM_lose {a : AS} {μ : St} (hI : Inv a) (h : RepM a μ) {c : Nat} (hc : c < nA a) {Φ : Int32 → St → Prop} (kk : ∀ b r μ', LoseR c a b r → RepM b μ' → Φ r μ') : wpX10_losesNow (nI c) μ Φ :=
  pM_losesNow h hI.1 hI.2.1 hI.2.2.1 hc (fun q => kk a _ μ (Or.inl ⟨q, rfl, rfl⟩) h) (fun q μ' hμ' => kk _ _ μ' (Or.inr ⟨q, rfl, rfl⟩) hμ')
theorem pM_say {a : AS} {μ : St} (hI : Inv a) (h : RepM a μ) {c : Nat} (hc : c < nA a) {Φ : Int32 → St → Prop} (kk : ∀ b r μ', SayR c a b r → RepM b μ' → Φ r μ') : wpX10_saysNow (nI c) μ Φ :=
  pM_saysNow hI h hc (fun q => kk a _ μ (Or.inl ⟨q, rfl, rfl⟩) h) (fun q μ' hμ' => kk _ _ μ' (Or.inr ⟨q, rfl, rfl⟩) hμ')
/-- an answer that counts as done -/
def dnN (r : Int32) : Nat := if r < -1 then 0 else 1
theorem dn_nI {k : Nat} (h : k < 2 ^ 31) : dnN (nI k) = 1 := by
  unfold dnN
  refine if_neg (fun z => ?_)
  have a := Int32.lt_iff_toInt_lt.mp z
  rw [nI_toInt h] at a
  have : (-1 : Int32).toInt = -1 := by decide
  omega
/-- one order is done: from a to b; whether it could be done -/
def DoR (k u v : Nat) (a b : AS) (ok : Nat) : Prop :=
  (k = 119 ∧ ∃ r, WorkR u v a b r ∧ ok = dnN r) ∨ (k = 115 ∧ ∃ r, SendR u v a b r ∧ ok = dnN r) ∨ (k = 103 ∧ ∃ r, GetR u v a b r ∧ ok = dnN r) ∨ (k = 108 ∧ b = writeA a u 24 ∧ ok = 1) ∨ (k = 120 ∧ ∃ r, LoseR u a b r ∧ ok = dnN r) ∨ (k = 111 ∧ ∃ r, SayR u a b r ∧ ok = dnN r) ∨ (k = 114 ∧ (∃ r, Rls r a b) ∧ ok = 1) ∨ (k = 117 ∧ b = cutB a (nA a) ∧ ok = 1)
theorem do_uq {k u v : Nat} {a b b' : AS} {ok ok' : Nat} (h : DoR k u v a b ok) (h' : DoR k u v a b' ok') : b = b' ∧ ok = ok' := by
  rcases h with ⟨e, r, h, rfl⟩ | ⟨e, r, h, rfl⟩ | ⟨e, r, h, rfl⟩ | ⟨e, h, rfl⟩ | ⟨e, r, h, rfl⟩ | ⟨e, r, h, rfl⟩ | ⟨e, ⟨r, h⟩, rfl⟩ | ⟨e, h, rfl⟩
  · rcases h' with ⟨e', r', h', rfl⟩ | ⟨e', h'⟩ | ⟨e', h'⟩ | ⟨e', h'⟩ | ⟨e', h'⟩ | ⟨e', h'⟩ | ⟨e', h'⟩ | ⟨e', h'⟩
    · obtain ⟨q1, q2⟩ := work_uq h h'
      exact ⟨q1, by rw [q2]⟩
    all_goals omega
  · rcases h' with ⟨e', h'⟩ | ⟨e', r', h', rfl⟩ | ⟨e', h'⟩ | ⟨e', h'⟩ | ⟨e', h'⟩ | ⟨e', h'⟩ | ⟨e', h'⟩ | ⟨e', h'⟩
    · omega
    · obtain ⟨q1, q2⟩ := send_uq h h'
      exact ⟨q1, by rw [q2]⟩
    all_goals omega
  · rcases h' with ⟨e', h'⟩ | ⟨e', h'⟩ | ⟨e', r', h', rfl⟩ | ⟨e', h'⟩ | ⟨e', h'⟩ | ⟨e', h'⟩ | ⟨e', h'⟩ | ⟨e', h'⟩
    · omega
    · omega
    · obtain ⟨q1, q2⟩ := get_uq h h'
      exact ⟨q1, by rw [q2]⟩
    all_goals omega
  · rcases h' with ⟨e', h'⟩ | ⟨e', h'⟩ | ⟨e', h'⟩ | ⟨e', h', rfl⟩ | ⟨e', h'⟩ | ⟨e', h'⟩ | ⟨e', h'⟩ | ⟨e', h'⟩
    · omega
    · omega
    · omega
    · exact ⟨h.trans h'.symm, rfl⟩
    all_goals omega
  · rcases h' with ⟨e', h'⟩ | ⟨e', h'⟩ | ⟨e', h'⟩ | ⟨e', h'⟩ | ⟨e', r', h', rfl⟩ | ⟨e', h'⟩ | ⟨e', h'⟩ | ⟨e', h'⟩
    · omega
    · omega
    · omega
    · omega
    · obtain ⟨q1, q2⟩ := lose_uq h h'
      exact ⟨q1, by rw [q2]⟩
    all_goals omega
  · rcases h' with ⟨e', h'⟩ | ⟨e', h'⟩ | ⟨e', h'⟩ | ⟨e', h'⟩ | ⟨e', h'⟩ | ⟨e', r', h', rfl⟩ | ⟨e', h'⟩ | ⟨e', h'⟩
    · omega
    · omega
    · omega
    · omega
    · omega
    · obtain ⟨q1, q2⟩ := say_uq h h'
      exact ⟨q1, by rw [q2]⟩
    all_goals omega
  · rcases h' with ⟨e', h'⟩ | ⟨e', h'⟩ | ⟨e', h'⟩ | ⟨e', h'⟩ | ⟨e', h'⟩ | ⟨e', h'⟩ | ⟨e', ⟨r', h'⟩, rfl⟩ | ⟨e', h'⟩
    · omega
    · omega
    · omega
    · omega
    · omega
    · omega
    · exact ⟨(rls_uniq r r' a h h').2, rfl⟩
    · omega
  · rcases h' with ⟨e', h'⟩ | ⟨e', h'⟩ | ⟨e', h'⟩ | ⟨e', h'⟩ | ⟨e', h'⟩ | ⟨e', h'⟩ | ⟨e', h'⟩ | ⟨e', h', rfl⟩
    · omega
    · omega
    · omega
    · omega
    · omega
    · omega
    · omega
    · exact ⟨h.trans h'.symm, rfl⟩
theorem do_kpt {k u v : Nat} {a b : AS} {ok : Nat} (h : DoR k u v a b ok) : Kpt a b ∧ ok ≤ 1 := by
  have D : ∀ r, dnN r ≤ 1 := fun r => by
    unfold dnN
    by_cases q : r < -1
    · rw [if_pos q]; decide
    · rw [if_neg q]; decide
  rcases h with ⟨e, r, h, rfl⟩ | ⟨e, r, h, rfl⟩ | ⟨e, r, h, rfl⟩ | ⟨e, rfl, rfl⟩ | ⟨e, r, h, rfl⟩ | ⟨e, r, h, rfl⟩ | ⟨e, ⟨r, h⟩, rfl⟩ | ⟨e, rfl, rfl⟩
  · exact ⟨kpt_work h, D r⟩
  · exact ⟨kpt_send h, D r⟩
  · exact ⟨kpt_get h, D r⟩
  · exact ⟨⟨rfl, rfl, rfl, rfl⟩, Nat.le_refl 1⟩
  · exact ⟨kpt_lose h, D r⟩
  · exact ⟨kpt_say h, D r⟩
  · exact ⟨kpt_rls r a h, Nat.le_refl 1⟩
  · exact ⟨kpt_cutB a _, Nat.le_refl 1⟩
theorem do_inv {k u v : Nat} {a b : AS} {ok : Nat} (hI : Inv a) (hu : u < nA a) (hv : k = 115 → v < nA a) (h : DoR k u v a b ok) : Inv b := by
  rcases h with ⟨e, r, h, rfl⟩ | ⟨e, r, h, rfl⟩ | ⟨e, r, h, rfl⟩ | ⟨e, rfl, rfl⟩ | ⟨e, r, h, rfl⟩ | ⟨e, r, h, rfl⟩ | ⟨e, ⟨r, h⟩, rfl⟩ | ⟨e, rfl, rfl⟩
  · exact inv_work hI hu h
  · exact inv_sendR hI hu (hv e) h
  · exact inv_get hI hu h
  · exact inv_write hI
  · exact inv_lose hI hu h
  · exact inv_say hI hu h
  · exact rls_inv r a hI h
  · exact (cutB_inv hI _ (Nat.le_refl _)).1
theorem m4_dn : dnN (-4) = 0 := by decide
theorem m3_dn : dnN (-3) = 0 := by decide
theorem m1_dn : dnN (-1) = 1 := by decide
/-- how full answers and done ones show -/
theorem dn_full {r : Int32} {A B : Prop} (hr : r = -4 ∨ ∃ k : Nat, k < 2 ^ 31 ∧ r = nI k) (f : dnN r = 0 → A) (g : dnN r = 1 → B) : (r = -4 → A) ∧ (¬ r = -4 → B) := by
  rcases hr with rfl | ⟨k, hk, rfl⟩
  · exact ⟨fun _ => f m4_dn, fun z => absurd rfl z⟩
  · refine ⟨fun z => ?_, fun _ => g (dn_nI hk)⟩
    rw [neI4 hk] at z
    exact z.elim
theorem dn_neg {k : Nat} {A B : Prop} (hk : k < 2 ^ 31) (g : B) : (nI k < 0 → A) ∧ (¬ nI k < 0 → B) :=
  ⟨fun z => absurd z (nI_pos hk), fun _ => g⟩
theorem pM_doesOne {a : AS} {μ : St} (hI : Inv a) (h : RepM a μ) {k u v : Nat} (hk : k < 128) (hm : many k ≠ 3) (hu : u < nA a) (hv : many k = 2 → v ≤ mostS k (nA a)) (h24 : μ.1 24 = nI u) (h25 : many k = 2 → μ.1 25 = nI v) {Φ : Int32 → St → Prop} (kk : ∀ b ok μ', DoR k u v a b ok → RepM b μ' → Φ (nI ok) μ') : wpX10_doesOne (nI k) μ Φ := by
  unfold wpX10_doesOne
  have hb := hI.1
  have hn := hb.1
  have L : ∀ j : Nat, j < 128 → (nI k = nI j) = (k = j) := fun j hj => eqI (by omega) (by omega)
  rw [nI_lit 103, nI_lit 108, nI_lit 111, nI_lit 114, nI_lit 115, nI_lit 119, nI_lit 120, L 103 (by decide), L 108 (by decide), L 111 (by decide), L 114 (by decide), L 115 (by decide), L 119 (by decide), L 120 (by decide), h24]
  have fin : ∀ b r μ', (∀ ok, ok = dnN r → DoR k u v a b ok) → RepM b μ' → (dnN r = 0 → Φ 0 μ') ∧ (dnN r = 1 → Φ 1 μ') := by
    intro b r μ' hd hr
    have := kk b _ μ' (hd _ rfl) hr
    exact ⟨fun z => by rw [z] at this; exact this, fun z => by rw [z] at this; exact this⟩
  refine ⟨fun e => ?_, fun e => ?_, fun e => ?_, fun e => ?_, fun e => ?_, fun e => ?_, fun e => ?_, fun e1 e2 e3 e4 e5 e6 e7 => ?_⟩
  · have m2 : many k = 2 := by rw [e]; rfl
    have hv2 := hv m2
    rw [show mostS k (nA a) = 99 by rw [e]; rfl] at hv2
    rw [h25 m2]
    refine pM_get hI h hu (by omega) (fun b r μ' hr hμ => ?_)
    obtain ⟨f1, f2⟩ := fin b r μ' (fun ok eo => Or.inr (Or.inr (Or.inl ⟨e, r, hr, eo⟩))) hμ
    refine ⟨fun z => f1 (if_pos z), fun z => f2 (if_neg z)⟩
  · have h23 := hb.2.1 u (by omega)
    have hw := (inv_write hI (c := u) (m := 24)).1.2.2.1 u (by omega)
    have hw : wri (writeA a u 24) u ≤ now a u := hw
    refine pM_becomesWritten h hb (by omega) (by decide) (fun μ' hμ => dn_neg (Nat.lt_of_le_of_lt hw (by omega)) ?_)
    exact kk _ 1 μ' (Or.inr (Or.inr (Or.inr (Or.inl ⟨e, rfl, rfl⟩)))) hμ
  · refine pM_say hI h hu (fun b r μ' hr hμ => ?_)
    obtain ⟨f1, f2⟩ := fin b r μ' (fun ok eo => Or.inr (Or.inr (Or.inr (Or.inr (Or.inr (Or.inl ⟨e, r, hr, eo⟩)))))) hμ
    refine dn_full ?_ f1 f2
    rcases hr with ⟨-, -, q⟩ | ⟨q0, -, q⟩
    · exact Or.inl q
    · have := heldN_le (saysA a u) (scn a + 1)
      exact Or.inr ⟨_, by omega, q⟩
  · refine pM_releases hI h (fun r b μ' hr hR hμ => dn_neg (by omega) ?_)
    exact kk _ 1 μ' (Or.inr (Or.inr (Or.inr (Or.inr (Or.inr (Or.inr (Or.inl ⟨e, ⟨r, hR⟩, rfl⟩))))))) hμ
  · have m2 : many k = 2 := by rw [e]; rfl
    rw [h25 m2]
    refine pM_send hI h hu (fun b r μ' hr hμ => ?_)
    obtain ⟨f1, f2⟩ := fin b r μ' (fun ok eo => Or.inr (Or.inl ⟨e, r, hr, eo⟩)) hμ
    refine dn_full ?_ f1 f2
    rcases hr with ⟨-, -, q⟩ | ⟨q0, -, q⟩
    · exact Or.inl q
    · exact Or.inr ⟨_, by omega, q⟩
  · have m2 : many k = 2 := by rw [e]; rfl
    have hv2 := hv m2
    rw [show mostS k (nA a) = 999 by rw [e]; rfl] at hv2
    rw [h25 m2]
    refine pM_work hI h hu (by omega) (fun b r μ' hr hμ => ?_)
    obtain ⟨f1, f2⟩ := fin b r μ' (fun ok eo => Or.inl ⟨e, r, hr, eo⟩) hμ
    refine dn_full ?_ f1 f2
    rcases hr with ⟨-, -, q⟩ | ⟨q0, -, q⟩
    · exact Or.inl q
    · exact Or.inr ⟨_, by omega, q⟩
  · refine pM_lose hI h hu (fun b r μ' hr hμ => ?_)
    obtain ⟨f1, f2⟩ := fin b r μ' (fun ok eo => Or.inr (Or.inr (Or.inr (Or.inr (Or.inl ⟨e, r, hr, eo⟩))))) hμ
    refine dn_full ?_ f1 f2
    rcases hr with ⟨-, -, q⟩ | ⟨q0, -, q⟩
    · exact Or.inl q
    · have := goneOf_le hb (c := u) (nA a) (by omega)
      exact Or.inr ⟨_, by omega, q⟩
  · have e8 : k = 117 := by
      refine Classical.byContradiction (fun z => hm ?_)
      unfold many
      rw [if_neg (by omega), if_neg (by omega), if_neg (by omega)]
    refine pM_cutsAll hI h (fun s μ' hs hμ => dn_neg (by omega) ?_)
    exact kk _ 1 μ' (Or.inr (Or.inr (Or.inr (Or.inr (Or.inr (Or.inr (Or.inr ⟨e8, rfl, rfl⟩))))))) hμ
