-- THE LOSS: what the invariants give
/-- pages and what they rest on -/
def Iv (a : AS) : Prop :=
  (∀ d, d < nA a → ∀ k, k ≤ now a d → rsp a d k d = k) ∧
  (∀ d, d < nA a → ∀ k, k < now a d → ∀ e, e < nA a → rsp a d k e ≤ rsp a d (k + 1) e) ∧
  (∀ d, d < nA a → ∀ k, k ≤ now a d → ∀ e, e < nA a → rsp a d k e ≤ now a e) ∧
  (∀ d, d < nA a → ∀ k, k ≤ now a d → ∀ e, e < nA a → ∀ f, f < nA a → rsp a e (rsp a d k e) f ≤ rsp a d k f) ∧
  (∀ d, d < nA a → ∀ k, k ≤ now a d → ∀ e, e < nA a → rsl a d k e ≤ life a e) ∧
  (∀ d, d < nA a → ∀ k, k ≤ now a d → ∀ e, e < nA a → ∀ i, rsl a d k e ≤ i → i < life a e → rsp a d k e ≤ ends a e i) ∧
  (∀ d, d < nA a → ∀ k, k ≤ now a d → ∀ e, e < nA a → 1 ≤ rsl a d k e → ends a e (rsl a d k e - 1) < rsp a d k e) ∧
  (∀ e, e < nA a → 1 ≤ life a e → ends a e (life a e - 1) ≤ now a e) ∧
  (∀ d, d < nA a → ∀ k, k ≤ frm a d → ∀ e, e < nA a → rsp a d k e ≤ wri a e) ∧
  (∀ d, d < nA a → ∀ e, e < nA a → rsp a d 0 e = 0) ∧
  (∀ d, d < nA a → ∀ k, k ≤ now a d → ∀ e, nA a ≤ e → e < 5 → rsl a d k e = 0 ∧ rsp a d k e = 0)
/-- letters and sayings -/
def Jv (a : AS) : Prop :=
  (∀ m, m < lcn a → ∀ e, e < nA a → lrl a m e ≤ life a e) ∧
  (∀ m, m < lcn a → ∀ e, e < nA a → 1 ≤ lrl a m e → ends a e (lrl a m e - 1) < lrp a m e) ∧
  (∀ m, m < lcn a → ∀ e, nA a ≤ e → e < 5 → lrl a m e = 0 ∧ lrp a m e = 0) ∧
  (∀ m, m < lcn a → ¬ deadL a m → ∀ e, e < nA a → lrp a m e ≤ now a e) ∧
  (∀ m, m < lcn a → ¬ deadL a m → ∀ e, e < nA a → ∀ f, f < nA a → rsp a e (lrp a m e) f ≤ lrp a m f) ∧
  (∀ k, k < scn a → sst a k = 0 → spg a k ≤ now a (sck a k)) ∧
  rcn a + heldN a (scn a) ≤ scn a
def Inv (a : AS) : Prop := Bd a ∧ Sm a ∧ Iv a ∧ Jv a
theorem grt_le (p : Nat → Prop) : ∀ N, grt p N ≤ N := by
  intro N
  induction N with
  | zero => exact Nat.le_refl 0
  | succ k ih =>
    unfold grt
    by_cases h : p (k + 1)
    · rw [if_pos h]
      exact Nat.le_refl _
    · rw [if_neg h]
      omega
theorem grt_no (p : Nat → Prop) : ∀ N k, grt p N < k → k ≤ N → ¬ p k := by
  intro N
  induction N with
  | zero =>
    intro k h1 h2
    omega
  | succ n ih =>
    intro k h1 h2
    unfold grt at h1
    by_cases h : p (n + 1)
    · rw [if_pos h] at h1
      omega
    · rw [if_neg h] at h1
      by_cases e : k = n + 1
      · subst e
        exact h
      · exact ih k h1 (by omega)
theorem grt_yes (p : Nat → Prop) : ∀ N, grt p N = 0 ∨ p (grt p N) := by
  intro N
  induction N with
  | zero => exact Or.inl rfl
  | succ k ih =>
    unfold grt
    by_cases h : p (k + 1)
    · rw [if_pos h]
      exact Or.inr h
    · rw [if_neg h]
      exact ih
theorem rsp_mono {a : AS} (hi : Iv a) {d e : Nat} (hd : d < nA a) (he : e < nA a) {k : Nat} : ∀ j, k + j ≤ now a d → rsp a d k e ≤ rsp a d (k + j) e := by
  intro j
  induction j with
  | zero => intro _; exact Nat.le_refl _
  | succ j ih =>
    intro h
    have h1 := ih (by omega)
    have h2 := hi.2.1 d hd (k + j) (by omega) e he
    exact Nat.le_trans h1 h2
theorem keep_le {a : AS} (hb : Bd a) {c d : Nat} (hc : c < nA a) : keep a c d ≤ now a d := by
  unfold keep
  by_cases e : d = c
  · rw [if_pos e, e]
    exact hb.2.2.1 c (by have := hb.1; omega)
  · rw [if_neg e]
    exact grt_le _ _
theorem keep_iff {a : AS} (hb : Bd a) (hi : Iv a) {c d k : Nat} (hc : c < nA a) (hd : d < nA a) (hk : k ≤ now a d) : k ≤ keep a c d ↔ rsp a d k c ≤ wri a c := by
  unfold keep
  by_cases e : d = c
  · subst e
    rw [if_pos rfl, hi.1 d hd k hk]
  · rw [if_neg e]
    constructor
    · intro h
      rcases grt_yes (fun k => rsp a d k c ≤ wri a c) (now a d) with h0 | h0
      · have : k = 0 := by omega
        subst this
        rw [hi.2.2.2.2.2.2.2.2.2.1 d hd c hc]
        exact Nat.zero_le _
      · have hg := grt_le (fun k => rsp a d k c ≤ wri a c) (now a d)
        have hm := rsp_mono hi hd hc (k := k) (grt (fun k => rsp a d k c ≤ wri a c) (now a d) - k) (by omega)
        rw [show k + (grt (fun k => rsp a d k c ≤ wri a c) (now a d) - k) = grt (fun k => rsp a d k c ≤ wri a c) (now a d) by omega] at hm
        exact Nat.le_trans hm h0
    · intro h
      by_cases q : k ≤ grt (fun k => rsp a d k c ≤ wri a c) (now a d)
      · exact q
      · exact absurd h (grt_no (fun k => rsp a d k c ≤ wri a c) (now a d) k (by omega) hk)
theorem keep_own {a : AS} {c : Nat} : keep a c c = wri a c := by
  unfold keep
  rw [if_pos rfl]
/-- a page that stays rests on pages that stay -/
theorem keep_rest {a : AS} (hb : Bd a) (hi : Iv a) {c d k e : Nat} (hc : c < nA a) (hd : d < nA a) (he : e < nA a) (hk : k ≤ keep a c d) : rsp a d k e ≤ keep a c e := by
  have hkn : k ≤ now a d := Nat.le_trans hk (keep_le hb hc)
  have h1 := (keep_iff hb hi hc hd hkn).mp hk
  have h3 := hi.2.2.1 d hd k hkn e he
  have ht := hi.2.2.2.1 d hd k hkn e he c hc
  exact (keep_iff hb hi hc he h3).mpr (Nat.le_trans ht h1)
theorem keep_frm {a : AS} (hb : Bd a) (hi : Iv a) {c d : Nat} (hc : c < nA a) (hd : d < nA a) : frm a d ≤ keep a c d :=
  (keep_iff hb hi hc hd (hb.2.2.2.1 d (by have := hb.1; omega))).mpr (hi.2.2.2.2.2.2.2.2.1 d hd _ (Nat.le_refl _) c hc)
/-- in the midst of a loss: those of F have fallen -/
noncomputable def midA (a : AS) (c : Nat) (F : Nat → Prop) : AS := fun t i j k =>
  @ite Nat (t = 1 ∧ F i) (Classical.propDecidable _) (a 1 i j k + 1)
  (@ite Nat (t = 2 ∧ F i) (Classical.propDecidable _) (keep a c i)
  (@ite Nat (t = 3 ∧ F i) (Classical.propDecidable _) (if wri a i < keep a c i then wri a i else keep a c i)
  (@ite Nat (t = 5 ∧ F i ∧ j = life a i) (Classical.propDecidable _) (keep a c i) (a t i j k))))
theorem mid_def (a : AS) (c : Nat) (F : Nat → Prop) (t i j k : Nat) : midA a c F t i j k = @ite Nat (t = 1 ∧ F i) (Classical.propDecidable _) (a 1 i j k + 1)
  (@ite Nat (t = 2 ∧ F i) (Classical.propDecidable _) (keep a c i)
  (@ite Nat (t = 3 ∧ F i) (Classical.propDecidable _) (if wri a i < keep a c i then wri a i else keep a c i)
  (@ite Nat (t = 5 ∧ F i ∧ j = life a i) (Classical.propDecidable _) (keep a c i) (a t i j k)))) := rfl
def fallA (a : AS) (d v : Nat) : AS := fun t i j k =>
  if t = 1 ∧ i = d then a 1 i j k + 1 else if t = 2 ∧ i = d then v else if t = 3 ∧ i = d then (if wri a d < v then wri a d else v) else if t = 5 ∧ i = d ∧ j = life a d then v else a t i j k
theorem mid_oth {a : AS} {c : Nat} {F : Nat → Prop} {t : Nat} (h : t ≠ 1 ∧ t ≠ 2 ∧ t ≠ 3 ∧ t ≠ 5) : (midA a c F) t = a t := by
  funext i j k
  rw [mid_def]
  rw [if_neg (fun q => h.1 q.1), if_neg (fun q => h.2.1 q.1), if_neg (fun q => h.2.2.1 q.1), if_neg (fun q => h.2.2.2 q.1)]
theorem mid_life {a : AS} {c : Nat} {F : Nat → Prop} {i : Nat} : (F i → life (midA a c F) i = life a i + 1) ∧ (¬ F i → life (midA a c F) i = life a i) := by
  constructor
  · intro h
    show midA a c F 1 i 0 0 = _
    rw [mid_def]
    rw [if_pos ⟨rfl, h⟩]
  · intro h
    show midA a c F 1 i 0 0 = _
    rw [mid_def]
    rw [if_neg (fun q => h q.2), if_neg (by rintro ⟨q, -⟩; omega), if_neg (by rintro ⟨q, -⟩; omega), if_neg (by rintro ⟨q, -⟩; omega)]
theorem mid_now {a : AS} {c : Nat} {F : Nat → Prop} {i : Nat} : (F i → now (midA a c F) i = keep a c i) ∧ (¬ F i → now (midA a c F) i = now a i) := by
  constructor
  · intro h
    show midA a c F 2 i 0 0 = _
    rw [mid_def]
    rw [if_neg (by rintro ⟨q, -⟩; omega), if_pos ⟨rfl, h⟩]
  · intro h
    show midA a c F 2 i 0 0 = _
    rw [mid_def]
    rw [if_neg (by rintro ⟨q, -⟩; omega), if_neg (fun q => h q.2), if_neg (by rintro ⟨q, -⟩; omega), if_neg (by rintro ⟨q, -⟩; omega)]
theorem mid_wri {a : AS} {c : Nat} {F : Nat → Prop} {i : Nat} : (F i → wri (midA a c F) i = if wri a i < keep a c i then wri a i else keep a c i) ∧ (¬ F i → wri (midA a c F) i = wri a i) := by
  constructor
  · intro h
    show midA a c F 3 i 0 0 = _
    rw [mid_def]
    rw [if_neg (by rintro ⟨q, -⟩; omega), if_neg (by rintro ⟨q, -⟩; omega), if_pos ⟨rfl, h⟩]
  · intro h
    show midA a c F 3 i 0 0 = _
    rw [mid_def]
    rw [if_neg (by rintro ⟨q, -⟩; omega), if_neg (by rintro ⟨q, -⟩; omega), if_neg (fun q => h q.2), if_neg (by rintro ⟨q, -⟩; omega)]
theorem mid_ends {a : AS} {c : Nat} {F : Nat → Prop} {i j : Nat} : (F i → j = life a i → ends (midA a c F) i j = keep a c i) ∧ (¬ (F i ∧ j = life a i) → ends (midA a c F) i j = ends a i j) := by
  constructor
  · intro h h2
    show midA a c F 5 i j 0 = _
    rw [mid_def]
    rw [if_neg (by rintro ⟨q, -⟩; omega), if_neg (by rintro ⟨q, -⟩; omega), if_neg (by rintro ⟨q, -⟩; omega), if_pos ⟨rfl, h, h2⟩]
  · intro h
    show midA a c F 5 i j 0 = _
    rw [mid_def]
    rw [if_neg (by rintro ⟨q, -⟩; omega), if_neg (by rintro ⟨q, -⟩; omega), if_neg (by rintro ⟨q, -⟩; omega), if_neg (fun q => h q.2)]
theorem mid_step {a : AS} {c d : Nat} {F : Nat → Prop} (hF : ¬ F d) : fallA (midA a c F) d (keep a c d) = midA a c (fun i => F i ∨ i = d) := by
  have hl : life (midA a c F) d = life a d := mid_life.2 hF
  have hw : wri (midA a c F) d = wri a d := mid_wri.2 hF
  funext t i j k
  unfold fallA
  rw [hl, hw]
  by_cases hid : i = d
  · subst hid
    have g : (fun z => F z ∨ z = i) i := Or.inr rfl
    by_cases h1 : t = 1
    · subst h1
      rw [if_pos ⟨rfl, rfl⟩]
      rw [mid_def, mid_def]
      rw [if_neg (fun q => hF q.2), if_neg (by rintro ⟨q, -⟩; omega), if_neg (by rintro ⟨q, -⟩; omega), if_neg (by rintro ⟨q, -⟩; omega), if_pos ⟨rfl, g⟩]
    · rw [if_neg (fun q => h1 q.1)]
      by_cases h2 : t = 2
      · subst h2
        rw [if_pos ⟨rfl, rfl⟩]
        rw [mid_def]
        rw [if_neg (by rintro ⟨q, -⟩; omega), if_pos ⟨rfl, g⟩]
      · rw [if_neg (fun q => h2 q.1)]
        by_cases h3 : t = 3
        · subst h3
          rw [if_pos ⟨rfl, rfl⟩]
          refine Eq.symm ?_
          rw [mid_def]
          rw [if_neg (by rintro ⟨q, -⟩; omega), if_neg (by rintro ⟨q, -⟩; omega), if_pos ⟨rfl, g⟩]
        · rw [if_neg (fun q => h3 q.1)]
          by_cases h5 : t = 5 ∧ j = life a i
          · obtain ⟨rfl, h5⟩ := h5
            rw [if_pos ⟨rfl, rfl, h5⟩]
            rw [mid_def]
            rw [if_neg (by rintro ⟨q, -⟩; omega), if_neg (by rintro ⟨q, -⟩; omega), if_neg (by rintro ⟨q, -⟩; omega), if_pos ⟨rfl, g, h5⟩]
          · rw [if_neg (fun q => h5 ⟨q.1, q.2.2⟩)]
            rw [mid_def, mid_def]
            rw [if_neg (fun q => h1 q.1), if_neg (fun q => h2 q.1), if_neg (fun q => h3 q.1), if_neg (fun q => h5 ⟨q.1, q.2.2⟩), if_neg (fun q => h1 q.1), if_neg (fun q => h2 q.1), if_neg (fun q => h3 q.1), if_neg (fun q => h5 ⟨q.1, q.2.2⟩)]
  · rw [if_neg (fun q => hid q.2), if_neg (fun q => hid q.2), if_neg (fun q => hid q.2), if_neg (fun q => hid q.2.1)]
    have e : ((fun z => F z ∨ z = d) i) = F i := propext ⟨fun q => q.resolve_right hid, Or.inl⟩
    dsimp only at e
    rw [mid_def, mid_def]
    rw [e]
/-- which pages are dead in the midst of a loss -/
def deadP (a : AS) (d k : Nat) : Prop := ∃ e, e < nA a ∧ deadR a e (rsl a d k e) (rsp a d k e)
theorem mid_dead {a : AS} (hb : Bd a) (hi : Iv a) {c : Nat} (hc : c < nA a) {F : Nat → Prop} (hF : F c) {d k : Nat} (hd : d < nA a) (hk : k ≤ now a d) : deadP (midA a c F) d k ↔ keep a c d < k := by
  have n1 : nA (midA a c F) = nA a := congrFun (congrFun (congrFun (mid_oth (by decide)) 0) 0) 0
  have r1 : ∀ e, rsl (midA a c F) d k e = rsl a d k e := fun e => congrFun (congrFun (congrFun (mid_oth (by decide)) d) k) e
  have r2 : ∀ e, rsp (midA a c F) d k e = rsp a d k e := fun e => congrFun (congrFun (congrFun (mid_oth (by decide)) d) k) e
  constructor
  · rintro ⟨e, he, i, h1, h2, h3⟩
    rw [n1] at he
    rw [r1] at h1
    rw [r2] at h3
    have hI1 := hi.2.2.2.2.2.1 d hd k hk e he
    by_cases hFe : F e
    · rw [mid_life.1 hFe] at h2
      by_cases hil : i = life a e
      · rw [mid_ends.1 hFe hil] at h3
        by_cases q : k ≤ keep a c d
        · have := keep_rest hb hi hc hd he q
          omega
        · omega
      · rw [mid_ends.2 (fun q => hil q.2)] at h3
        have := hI1 i h1 (by omega)
        omega
    · rw [mid_life.2 hFe] at h2
      rw [mid_ends.2 (fun q => hFe q.1)] at h3
      have := hI1 i h1 h2
      omega
  · intro h
    refine ⟨c, by rw [n1]; exact hc, life a c, ?_, ?_, ?_⟩
    · rw [r1]
      exact hi.2.2.2.2.1 d hd k hk c hc
    · rw [mid_life.1 hF]
      omega
    · rw [mid_ends.1 hF rfl, r2, keep_own]
      have := (keep_iff hb hi hc hd hk)
      omega
