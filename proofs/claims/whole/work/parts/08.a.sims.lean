-- CLASS AND REFERENCE ANSWER ALIKE
theorem isC_cl {a : AS} (hb : Bd a) {x : Int32} (h : isC a x) : cl x < nA a := by
  obtain ⟨c, hc, rfl⟩ := h
  have hn := hb.1
  rw [cl_nI (n := c) (by omega)]
  exact hc
theorem fx_ok {a b0 : AS} {r0 : Int32} (h1 : Inv b0) (h2 : Ste a b0) (b : AS) (r : Int32) (h : Fx b0 r0 b r) : Inv b ∧ Ste a b := by
  rw [h.1]
  exact ⟨h1, h2⟩
theorem sim_clerks {i : Nat} : Sim_clerks (Rl i) (Rl (i + 5)) := by
  intro σ μ x1 h
  refine sim_of (wC := wpX9_clerks x1 σ) (wM := wpX10_clerks x1 μ) h (fun a b r => CRg (inn 2 5 x1) (Fx (beginA a (cl x1)) (nI (nA a))) a b r) (fun a hI _ hC Φ kk => pD_clerks hI hC kk) (fun a hI _ hM Φ kk => pW_clerks hI hM kk) (fun a b b' r r' h1 h2 => crg_uq (fun _ => fx_uq) h1 h2) (fun a b r hI h => crg_inv hI (fun g b r p => fx_ok (a := a) (b0 := beginA a (cl x1)) ?_ ⟨rfl, rfl, rfl, Nat.zero_le _⟩ b r p) h)
  obtain ⟨v, h1, h2, rfl⟩ := inn_nI (by decide) (by decide) g
  rw [cl_nI (n := v) (by omega)]
  exact inv_begin hI h1 h2
theorem sim_work {i : Nat} : Sim_work (Rl i) (Rl (i + 5)) := by
  intro σ μ x1 x2 h
  exact sim_of (wC := wpX9_work x1 x2 σ) (wM := wpX10_work x1 x2 μ) h (fun a b r => CRg (isC a x1 ∧ inn 0 999 x2) (WorkR (cl x1) (cl x2) a) a b r) (fun a hI _ hC Φ kk => pD_work hI hC kk) (fun a hI _ hM Φ kk => pW_work hI hM kk) (fun a b b' r r' h1 h2 => crg_uq (fun _ _ _ _ _ p q => work_uq p q) h1 h2) (fun a b r hI h => crg_inv hI (fun g b r p => ⟨inv_work hI (isC_cl hI.1 g.1) p, ste_work p⟩) h)
theorem sim_send {i : Nat} : Sim_send (Rl i) (Rl (i + 5)) := by
  intro σ μ x1 x2 h
  exact sim_of (wC := wpX9_send x1 x2 σ) (wM := wpX10_send x1 x2 μ) h (fun a b r => CRg (isC a x1 ∧ isC a x2 ∧ x1 ≠ x2) (SendR (cl x1) (cl x2) a) a b r) (fun a hI _ hC Φ kk => pD_send hI hC kk) (fun a hI _ hM Φ kk => pW_send hI hM kk) (fun a b b' r r' h1 h2 => crg_uq (fun _ _ _ _ _ p q => send_uq p q) h1 h2) (fun a b r hI h => crg_inv hI (fun g b r p => ⟨inv_sendR hI (isC_cl hI.1 g.1) (isC_cl hI.1 g.2.1) p, ste_send p⟩) h)
theorem sim_get {i : Nat} : Sim_get (Rl i) (Rl (i + 5)) := by
  intro σ μ x1 x2 h
  exact sim_of (wC := wpX9_get x1 x2 σ) (wM := wpX10_get x1 x2 μ) h (fun a b r => CRg (isC a x1 ∧ ¬ x2 < 0) (GetR (cl x1) (cl x2) a) a b r) (fun a hI _ hC Φ kk => pD_get hI hC kk) (fun a hI _ hM Φ kk => pW_get hI hM kk) (fun a b b' r r' h1 h2 => crg_uq (fun _ _ _ _ _ p q => get_uq p q) h1 h2) (fun a b r hI h => crg_inv hI (fun g b r p => ⟨inv_get hI (isC_cl hI.1 g.1) p, ste_get p⟩) h)
theorem sim_writes {i : Nat} : Sim_writes (Rl i) (Rl (i + 5)) := by
  intro σ μ x1 x2 h
  exact sim_of (wC := wpX9_writes x1 x2 σ) (wM := wpX10_writes x1 x2 μ) h (fun a b r => CRg (isC a x1 ∧ inn 1 24 x2) (Fx (writeA a (cl x1) (cl x2)) (nI (wri (writeA a (cl x1) (cl x2)) (cl x1)))) a b r) (fun a hI _ hC Φ kk => pD_writes hI hC kk) (fun a hI _ hM Φ kk => pW_writes hI hM kk) (fun a b b' r r' h1 h2 => crg_uq (fun _ => fx_uq) h1 h2) (fun a b r hI h => crg_inv hI (fun g => fx_ok (inv_write hI) ⟨rfl, rfl, rfl, Nat.le_add_right _ _⟩) h)
theorem sim_loses {i : Nat} : Sim_loses (Rl i) (Rl (i + 5)) := by
  intro σ μ x1 h
  exact sim_of (wC := wpX9_loses x1 σ) (wM := wpX10_loses x1 μ) h (fun a b r => CRg (isC a x1) (LoseR (cl x1) a) a b r) (fun a hI _ hC Φ kk => pD_loses hI hC kk) (fun a hI _ hM Φ kk => pW_loses hI hM kk) (fun a b b' r r' h1 h2 => crg_uq (fun _ _ _ _ _ p q => lose_uq p q) h1 h2) (fun a b r hI h => crg_inv hI (fun g b r p => ⟨inv_lose hI (isC_cl hI.1 g) p, stg_e (stg_lose hI.1 p) (by decide)⟩) h)
theorem sim_draw {i : Nat} : Sim_draw (Rl i) (Rl (i + 5)) := by
  intro σ μ x1 x2 h
  refine sim_of (wC := wpX9_draw x1 x2 σ) (wM := wpX10_draw x1 x2 μ) h (fun a b r => CRg (inn 0 999999 x1 ∧ inn 1 60 x2) (DrwR a (cl x1) (cl x2)) a b r) (fun a hI _ hC Φ kk => pD_draw hI hC kk) (fun a hI _ hM Φ kk => pW_draw hI hM kk) (fun a b b' r r' h1 h2 => crg_uq (fun _ b b' r r' p q => ?_) h1 h2) (fun a b r hI h => crg_inv hI (fun g b r p => ?_) h)
  · obtain ⟨x, c, p1, p2⟩ := p
    obtain ⟨x', c', q1, q2⟩ := q
    obtain ⟨e1, -, e3⟩ := drn_uq _ _ _ _ _ _ _ p1 q1
    exact ⟨e1, by rw [p2, q2, e3]⟩
  · obtain ⟨x, c, p1, p2⟩ := p
    have hn := hI.1.1
    obtain ⟨s, h1, h2, e1⟩ := inn_nI (by decide) (by decide) g.1
    obtain ⟨m, h3, h4, e2⟩ := inn_nI (by decide) (by decide) g.2
    rw [e1, e2, cl_nI (n := s) (by omega), cl_nI (n := m) (by omega)] at p1
    have hIb : Inv (beginA a (nA a)) := inv_begin hI hn.1 hn.2
    have st := stg_drn m b x c p1
    refine ⟨(drn_ok hIb (by omega) m b x c p1).1, ?_⟩
    refine ⟨?_, ?_, ?_, ?_⟩
    · show b 23 0 0 0 = _
      rw [st.1]
      rfl
    · show b 24 0 0 0 = _
      rw [st.2.1]
      rfl
    · show b 25 0 0 0 = _
      rw [st.2.2.1]
      rfl
    · have h5 := st.2.2.2
      have h6 : gon (beginA a (nA a)) = 0 := rfl
      omega
theorem sim_of' {i : Nat} : Sim_of (Rl i) (Rl (i + 5)) := by
  intro σ μ x1 x2 h
  exact sim_of (wC := wpX9_of x1 x2 σ) (wM := wpX10_of x1 x2 μ) h (fun a b r => CRg (isC a x1 ∧ inn 0 7 x2) (Fx a (nI (ofA a (cl x1) (cl x2)))) a b r) (fun a hI _ hC Φ kk => pD_of hI hC kk) (fun a hI _ hM Φ kk => pW_of hI hM kk) (fun a b b' r r' h1 h2 => crg_uq (fun _ => fx_uq) h1 h2) (fun a b r hI h => crg_inv hI (fun g => fx_ok hI (ste_0 a)) h)
theorem sim_page {i : Nat} : Sim_page (Rl i) (Rl (i + 5)) := by
  intro σ μ x1 x2 x3 x4 h
  exact sim_of (wC := wpX9_page x1 x2 x3 x4 σ) (wM := wpX10_page x1 x2 x3 x4 μ) h (fun a b r => CRg (isC a x1 ∧ ¬ x2 < 0 ∧ isC a x3 ∧ inn 0 3 x4) (Fx a (pgV a (cl x1) (cl x2) (cl x3) (cl x4))) a b r) (fun a hI _ hC Φ kk => pD_page hI hC kk) (fun a hI _ hM Φ kk => pW_page hI hM kk) (fun a b b' r r' h1 h2 => crg_uq (fun _ => fx_uq) h1 h2) (fun a b r hI h => crg_inv hI (fun g => fx_ok hI (ste_0 a)) h)
theorem sim_dead {i : Nat} : Sim_dead (Rl i) (Rl (i + 5)) := by
  intro σ μ x1 x2 x3 h
  exact sim_of (wC := wpX9_dead x1 x2 x3 σ) (wM := wpX10_dead x1 x2 x3 μ) h (fun a b r => CRg (isC a x1 ∧ inn 0 99 x2 ∧ inn 0 99 x3) (Fx a (b01 (deadR a (cl x1) (cl x2) (cl x3)))) a b r) (fun a hI _ hC Φ kk => pD_dead hI hC kk) (fun a hI _ hM Φ kk => pW_dead hI hM kk) (fun a b b' r r' h1 h2 => crg_uq (fun _ => fx_uq) h1 h2) (fun a b r hI h => crg_inv hI (fun g => fx_ok hI (ste_0 a)) h)
theorem sim_end {i : Nat} : Sim_end (Rl i) (Rl (i + 5)) := by
  intro σ μ x1 x2 h
  exact sim_of (wC := wpX9_end x1 x2 σ) (wM := wpX10_end x1 x2 μ) h (fun a b r => CRg (isC a x1 ∧ inn 0 99 x2) (Fx a (enV a (cl x1) (cl x2))) a b r) (fun a hI _ hC Φ kk => pD_end hI hC kk) (fun a hI _ hM Φ kk => pW_end hI hM kk) (fun a b b' r r' h1 h2 => crg_uq (fun _ => fx_uq) h1 h2) (fun a b r hI h => crg_inv hI (fun g => fx_ok hI (ste_0 a)) h)
theorem sim_letter {i : Nat} : Sim_letter (Rl i) (Rl (i + 5)) := by
  intro σ μ x1 x2 x3 h
  refine sim_of (wC := wpX9_letter x1 x2 x3 σ) (wM := wpX10_letter x1 x2 x3 μ) h (fun a b r => CRg (isC a x1 ∧ ¬ x2 < 0 ∧ inn 0 3 x3) (LetR a (cl x1) (cl x2) (cl x3)) a b r) (fun a hI _ hC Φ kk => pD_letter hI hC kk) (fun a hI _ hM Φ kk => pW_letter hI hM kk) (fun a b b' r r' h1 h2 => crg_uq (fun _ _ _ _ _ p q => let_uq p q) h1 h2) (fun a b r hI h => crg_inv hI (fun g b r p => ?_) h)
  rw [p.1]
  exact ⟨hI, ste_0 a⟩
theorem stg_swp : ∀ (i : Nat) (a : AS), Stg 0 a (swpA i a) := by
  intro i
  induction i with
  | zero => intro a; exact stg_0 a 0
  | succ i ih =>
    intro a
    by_cases q : deadL a i
    · rw [(swpA_t q).1]
      have h3 : Stg 0 a (takeA a i) := ⟨rfl, rfl, rfl, Nat.le_add_right _ _⟩
      exact stg_t h3 (ih _)
    · rw [(swpA_f q).1]
      exact ih a
theorem sim_sweeps {i : Nat} : Sim_sweeps (Rl i) (Rl (i + 5)) := by
  intro σ μ h
  refine sim_of (wC := wpX9_sweeps σ) (wM := wpX10_sweeps μ) h (fun a b r => Fx (swpA (lcn a) a) (nI (swpN (lcn a) a)) b r) (fun a hI _ hC Φ kk => ?_) (fun a hI _ hM Φ kk => pM_sweeps hI hM (fun t ht => kk _ _ t ⟨rfl, rfl⟩ ht)) (fun a b b' r r' h1 h2 => fx_uq _ _ _ _ h1 h2) (fun a b r hI h => ?_)
  · unfold wpX9_sweeps
    exact pC_sweeps hI hC (fun t ht => kk _ _ t ⟨rfl, rfl⟩ ht)
  · rw [h.1]
    exact ⟨swp_inv _ a hI (Nat.le_refl _), stp_e (stg_e (stg_swp _ a) (by decide))⟩
theorem sim_says {i : Nat} : Sim_says (Rl i) (Rl (i + 5)) := by
  intro σ μ x1 h
  exact sim_of (wC := wpX9_says x1 σ) (wM := wpX10_says x1 μ) h (fun a b r => CRg (isC a x1) (SayR (cl x1) a) a b r) (fun a hI _ hC Φ kk => pD_says hI hC kk) (fun a hI _ hM Φ kk => pW_says hI hM kk) (fun a b b' r r' h1 h2 => crg_uq (fun _ _ _ _ _ p q => say_uq p q) h1 h2) (fun a b r hI h => crg_inv hI (fun g b r p => ⟨inv_say hI (isC_cl hI.1 g) p, ste_say p⟩) h)
theorem sim_release {i : Nat} : Sim_release (Rl i) (Rl (i + 5)) := by
  intro σ μ h
  refine sim_of (wC := wpX9_release σ) (wM := wpX10_release μ) h (fun a b r => ∃ n : Nat, Rls n a b ∧ r = nI n) (fun a hI _ hC Φ kk => ?_) (fun a hI _ hM Φ kk => ?_) (fun a b b' r r' h1 h2 => ?_) (fun a b r hI h => ?_)
  · unfold wpX9_release
    exact pC_releases hI hC (fun r b t _ hR ht => kk _ _ t ⟨r, hR, rfl⟩ ht)
  · unfold wpX10_release
    exact pM_releases hI hM (fun r b t _ hR ht => kk _ _ t ⟨r, hR, rfl⟩ ht)
  · obtain ⟨n, p1, p2⟩ := h1
    obtain ⟨n', q1, q2⟩ := h2
    obtain ⟨e1, e2⟩ := rls_uniq n n' a p1 q1
    exact ⟨e2, by rw [p2, q2, e1]⟩
  · obtain ⟨n, p1, p2⟩ := h
    exact ⟨rls_inv n a hI p1, stp_e (stg_e (stg_rls n a p1) (by decide))⟩
theorem sim_saying {i : Nat} : Sim_saying (Rl i) (Rl (i + 5)) := by
  intro σ μ x1 x2 h
  exact sim_of (wC := wpX9_saying x1 x2 σ) (wM := wpX10_saying x1 x2 μ) h (fun a b r => CRg (¬ x1 < 0 ∧ inn 0 3 x2) (Fx a (syV a (cl x1) (cl x2))) a b r) (fun a hI _ hC Φ kk => pD_saying hI hC kk) (fun a hI _ hM Φ kk => pW_saying hI hM kk) (fun a b b' r r' h1 h2 => crg_uq (fun _ => fx_uq) h1 h2) (fun a b r hI h => crg_inv hI (fun g => fx_ok hI (ste_0 a)) h)
theorem sim_released {i : Nat} : Sim_released (Rl i) (Rl (i + 5)) := by
  intro σ μ x1 h
  exact sim_of (wC := wpX9_released x1 σ) (wM := wpX10_released x1 μ) h (fun a b r => CRg (¬ x1 < 0) (Fx a (rlV a (cl x1))) a b r) (fun a hI _ hC Φ kk => pD_released hI hC kk) (fun a hI _ hM Φ kk => pW_released hI hM kk) (fun a b b' r r' h1 h2 => crg_uq (fun _ => fx_uq) h1 h2) (fun a b r hI h => crg_inv hI (fun g => fx_ok hI (ste_0 a)) h)
theorem sim_cuts {i : Nat} : Sim_cuts (Rl i) (Rl (i + 5)) := by
  intro σ μ x1 h
  exact sim_of (wC := wpX9_cuts x1 σ) (wM := wpX10_cuts x1 μ) h (fun a b r => CRg (isC a x1) (Fx (cutA a (cl x1)) (nI (cutK a (cl x1)))) a b r) (fun a hI _ hC Φ kk => pD_cuts hI hC kk) (fun a hI _ hM Φ kk => pW_cuts hI hM kk) (fun a b b' r r' h1 h2 => crg_uq (fun _ => fx_uq) h1 h2) (fun a b r hI h => crg_inv hI (fun g => fx_ok (inv_cut hI (isC_cl hI.1 g)) ⟨rfl, rfl, rfl, Nat.le_add_right _ _⟩) h)
theorem sim_would {i : Nat} : Sim_would (Rl i) (Rl (i + 5)) := by
  intro σ μ x1 x2 h
  exact sim_of (wC := wpX9_would x1 x2 σ) (wM := wpX10_would x1 x2 μ) h (fun a b r => CRg (isC a x1 ∧ inn 0 2 x2) (Fx a (nI (wdV a (cl x1) (cl x2)))) a b r) (fun a hI _ hC Φ kk => pD_would hI hC kk) (fun a hI _ hM Φ kk => pW_would hI hM kk) (fun a b b' r r' h1 h2 => crg_uq (fun _ => fx_uq) h1 h2) (fun a b r hI h => crg_inv hI (fun g => fx_ok hI (ste_0 a)) h)
theorem sim_worst {i : Nat} : Sim_worst (Rl i) (Rl (i + 5)) := by
  intro σ μ x1 h
  exact sim_of (wC := wpX9_worst x1 σ) (wM := wpX10_worst x1 μ) h (fun a b r => CRg (inn 0 1 x1) (Fx a (nI (wsV2 a (cl x1)))) a b r) (fun a hI _ hC Φ kk => pD_worst hI hC kk) (fun a hI _ hM Φ kk => pW_worst hI hM kk) (fun a b b' r r' h1 h2 => crg_uq (fun _ => fx_uq) h1 h2) (fun a b r hI h => crg_inv hI (fun g => fx_ok hI (ste_0 a)) h)
theorem sim_type {i : Nat} : Sim_type (Rl i) (Rl (i + 5)) := by
  intro σ μ x1 h
  refine sim_of (wC := wpX9_type x1 σ) (wM := wpX10_type x1 μ) h (fun a b r => CRg (inn 0 127 x1) (TypR a (cl x1)) a b r) (fun a hI _ hC Φ kk => pD_type hI hC kk) (fun a hI _ hM Φ kk => pW_type hI hM kk) (fun a b b' r r' h1 h2 => crg_uq (fun _ _ _ _ _ p q => typ_uq p q) h1 h2) (fun a b r hI h => crg_inv hI (fun g b r p => ?_) h)
  obtain ⟨v, h1, h2, e1⟩ := inn_nI (by decide) (by decide) g
  rw [e1, cl_nI (n := v) (by omega)] at p
  rcases p with ⟨-, e, -⟩ | ⟨q, e, -⟩
  · rw [e]
    exact ⟨hI, ste_0 a⟩
  · rw [e]
    exact ⟨inv_type hI (by omega) q, ⟨rfl, rfl, rfl, Nat.le_add_right _ _⟩⟩
theorem sim_clear {i : Nat} : Sim_clear (Rl i) (Rl (i + 5)) := by
  intro σ μ h
  refine sim_of (wC := wpX9_clear σ) (wM := wpX10_clear μ) h (fun a b r => Fx (clearA a) (nI (tln a)) b r) (fun a hI _ hC Φ kk => pD_clear hC (fun t ht => kk _ _ t ⟨rfl, rfl⟩ ht)) (fun a hI _ hM Φ kk => pM_clear hM (fun t ht => kk _ _ t ⟨rfl, rfl⟩ ht)) (fun a b b' r r' h1 h2 => fx_uq _ _ _ _ h1 h2) (fun a b r hI h => ?_)
  rw [h.1]
  exact ⟨inv_clear hI, stp_e ⟨rfl, rfl, rfl, Nat.le_add_right _ _⟩⟩
theorem sim_told {i : Nat} (hi : i ≤ 2560) : Sim_told (Rl i) (Rl (i + 5)) := by
  intro σ μ x1 h
  exact sim_of (wC := wpX9_told x1 σ) (wM := wpX10_told x1 μ) h (fun a b r => CRg (inn 0 9 x1) (Fx a (nI (toldA a (cl x1)))) a b r) (fun a hI _ hC Φ kk => pD_told hI hC kk) (fun a hI hc hM Φ kk => pW_told hI hc hi hM kk) (fun a b b' r r' h1 h2 => crg_uq (fun _ => fx_uq) h1 h2) (fun a b r hI h => crg_inv hI (fun g => fx_ok hI (ste_0 a)) h)
theorem sim_digest {i : Nat} : Sim_digest (Rl i) (Rl (i + 5)) := by
  intro σ μ h
  refine sim_of (wC := wpX9_digest σ) (wM := wpX10_digest μ) h (fun a b (r : Int64) => b = a ∧ r = dg3 a) (fun a hI _ hC Φ kk => pD_digest hI hC (kk _ _ σ ⟨rfl, rfl⟩ hC)) (fun a hI _ hM Φ kk => pW_digest hI hM (kk _ _ μ ⟨rfl, rfl⟩ hM)) (fun a b b' r r' h1 h2 => ⟨h1.1.trans h2.1.symm, h1.2.trans h2.2.symm⟩) (fun a b r hI h => ?_)
  rw [h.1]
  exact ⟨hI, stp_e (ste_0 a)⟩
theorem fin_60 {tx : Nat → Nat} {L n M : Nat} (hL : L ≤ 120) (h : FinO tx L n M) : M < 60 := by
  have h1 := go_2 M h.1
  have h2 := pos_2 h.2.1
  have h3 : pos tx L n (M + 1) ≤ L := pos_le (M + 1)
  omega
theorem sim_does {i : Nat} : Sim_does (Rl i) (Rl (i + 5)) := by
  intro σ μ h
  obtain ⟨a, hI, hc, h1, h2⟩ := h
  refine pC_does hI h1 (tx := fun i => a 27 i 0 0) (L := a 26 0 0 0) rfl rfl (fun m f t hf ht => ?_) (fun M b c t0 hF hD t ht => ?_)
  · refine pM_does (inv_ord hI t) (RepM_ord h2 t) (tx := fun i => a 27 i 0 0) (L := a 26 0 0 0) rfl rfl (fun m' f' hf' t' ht' => ?_) (fun M b c hF hD t' ht' => (fin_flt hF hf).elim)
    have e := flt_uq hf hf'
    subst e
    exact ⟨rfl, plcA (ordA a t) f, inv_plc (inv_ord hI t) f, cn_stp hc ⟨Nat.le_add_right _ _, Nat.le_add_right _ _, Nat.le_add_right _ _, Nat.le_add_right _ _⟩, RepC_plc ht f, ht'⟩
  · refine pM_does (inv_ord hI t0) (RepM_ord h2 t0) (tx := fun i => a 27 i 0 0) (L := a 26 0 0 0) rfl rfl (fun m f hf t' ht' => (fin_flt hF hf).elim) (fun M' b' c' hF' hD' t' ht' => ?_)
    have e := fin_uq hF hF'
    subst e
    obtain ⟨e1, e2⟩ := dn_uq _ _ _ _ _ hD hD'
    subst e1 e2
    have hM := fin_60 hI.1.2.2.2.2.2.2.2.2 hF
    have st := stg_dn (inv_ord hI t0) (M + 1) b c hD
    have sp : StC a b := by
      have := stp_e (stg_e st (by omega))
      exact this
    exact ⟨rfl, b, dn_inv (inv_ord hI t0) _ _ _ hD, cn_stp hc sp, ht, ht'⟩
theorem sim_all {i : Nat} (hi : i ≤ 2560) : SimAll (Rl i) (Rl (i + 5)) := ⟨sim_clerks, sim_work, sim_send, sim_get, sim_writes, sim_loses, sim_draw, sim_of', sim_page, sim_dead, sim_end, sim_letter, sim_sweeps, sim_says, sim_release, sim_saying, sim_released, sim_cuts, sim_would, sim_worst, sim_type, sim_clear, sim_does, sim_told hi, sim_digest⟩
-- the beginning
def z0 : AS := fun _ _ _ _ => 0
theorem inv_0 : Inv (beginA z0 3) := by
  refine ⟨⟨⟨(by decide), (by decide)⟩, fun _ _ => Nat.zero_le _, fun _ _ => Nat.le_refl _, fun _ _ => Nat.le_refl _, fun _ _ => Nat.zero_le _, Nat.zero_le _, Nat.zero_le _, Nat.le_refl _, Nat.zero_le _⟩, ⟨fun _ _ _ _ => (by show (0 : Nat) < 1000003; decide), fun m hm => absurd hm (Nat.not_lt_zero m), fun _ _ _ _ _ _ => ⟨Nat.zero_le _, Nat.zero_le _⟩, fun m hm => absurd hm (Nat.not_lt_zero m), fun _ _ l hl => absurd hl (Nat.not_lt_zero l), fun _ _ _ _ => Nat.zero_le _, fun m hm => absurd hm (Nat.not_lt_zero m), fun m hm => absurd hm (Nat.not_lt_zero m), fun m hm => absurd hm (Nat.not_lt_zero m), fun m hm => absurd hm (Nat.not_lt_zero m)⟩, ⟨fun d _ k hk => ?_, fun _ _ _ _ _ _ => Nat.le_refl _, fun _ _ _ _ _ _ => Nat.le_refl _, fun _ _ _ _ _ _ _ _ => Nat.le_refl _, fun _ _ _ _ _ _ => Nat.le_refl _, fun _ _ _ _ _ _ i _ hi => absurd hi (Nat.not_lt_zero i), fun _ _ _ _ _ _ hl => absurd hl (Nat.not_lt_zero 0), fun _ _ hl => absurd hl (Nat.not_lt_zero 0), fun _ _ _ _ _ _ => Nat.le_refl _, fun _ _ _ _ => rfl, fun _ _ _ _ _ _ _ => ⟨rfl, rfl⟩⟩, ⟨fun m hm => absurd hm (Nat.not_lt_zero m), fun m hm => absurd hm (Nat.not_lt_zero m), fun m hm => absurd hm (Nat.not_lt_zero m), fun m hm => absurd hm (Nat.not_lt_zero m), fun m hm => absurd hm (Nat.not_lt_zero m), fun m hm => absurd hm (Nat.not_lt_zero m), Nat.le_refl 0⟩⟩
  have : k = 0 := Nat.le_zero.mp hk
  rw [this]
  rfl
def Φ0 (t : St) : Prop := RepC (beginA z0 3) t ∧ (∀ j, 1792 ≤ j → t.1 j = 0) ∧ ∀ k, 52 ≤ k → t.2 k = fun _ => 0
theorem beg_0 : wpX2_begin (3 : Int32) zSt Φ0 := by
  show wpX2_begin (nI 3) zSt Φ0
  refine pC_begin0 (fun t h0 h1 h64 h96 h97 hf hr hc => ⟨repC_begin h0 h1 h64 h96 h97 hc ⟨hf 1888 (by decide), hf 1889 (by decide), hf 1890 (by decide)⟩ ⟨hf 1824 (by decide), fun i hi => absurd hi (Nat.not_lt_zero i)⟩ ⟨hf 1856 (by decide), fun i _ => ?_, fun i _ => ?_, fun i _ => ?_⟩, fun j hj => hf j (by omega), fun k hk => hr k (by omega)⟩)
  · rw [hr 53 (by decide)]; rfl
  · rw [hr 54 (by decide)]; rfl
  · rw [hr 55 (by decide)]; rfl
theorem rep_0 : RepM (beginA z0 3) mSt0 := ⟨⟨rfl, fun _ _ => rfl, fun _ _ => rfl, fun _ _ => rfl, fun _ _ => rfl⟩, fun _ _ _ _ => rfl, ⟨fun _ _ _ _ => rfl, fun _ _ _ _ => rfl, fun _ _ _ _ _ _ => rfl, fun _ _ _ _ _ _ => rfl⟩, ⟨rfl, fun _ _ => rfl, fun _ _ => rfl, fun _ _ => rfl, fun _ _ _ _ => rfl, fun _ _ _ _ => rfl⟩, ⟨rfl, fun _ _ => rfl, fun _ _ => rfl, fun _ _ => rfl, rfl, fun _ _ => rfl⟩, ⟨rfl, rfl, rfl, rfl⟩, ⟨rfl, fun _ _ => rfl, rfl⟩⟩
theorem rel_0 (σ : St) (h : Φ0 σ) : Rl 0 σ mSt0 := ⟨beginA z0 3, inv_0, ⟨Nat.le_refl 0, Nat.le_refl 0, Nat.le_refl 0, Nat.le_refl 0⟩, h.1, rep_0⟩
