theorem cCell_ad {D : va_G} {ad ad' : Nat → Nat} {cyI cyO : ClassId} {σ : St} {k a : Nat} {H : Heap} (h : ∀ j, j < 52 → ad' j = ad j) (hk : k < 52) (hp : va_at D vwCl (a, cCell ad cyI cyO σ k) H) : va_at D vwCl (a, cCell ad' cyI cyO σ k) H := by
  by_cases h1 : k = 1
  · subst h1
    have h2 : H[a]? = some (vp_cell cyO (5, .inr (.inr (.inr (.inr (fun i => some (ad (5 + i)))))))) := hp
    show H[a]? = some (vp_cell cyO (5, .inr (.inr (.inr (.inr (fun i => some (ad' (5 + i))))))))
    rw [h2]
    exact congrArg some (vpq_congr (fun j hj => by rw [h (5 + j) (by omega)]))
  · have e : cCell ad' cyI cyO σ k = cCell ad cyI cyO σ k := by
      rcases Nat.lt_or_ge k 5 with h5 | h5
      · rcases (show k = 0 ∨ k = 2 ∨ k = 3 ∨ k = 4 by omega) with rfl | rfl | rfl | rfl
        · rw [cc_X2, cc_X2, h 1 (by decide), h 2 (by decide), h 3 (by decide), h 4 (by decide)]
        · rw [cc_X3, cc_X3, h 43 (by decide), h 44 (by decide), h 45 (by decide), h 15 (by decide)]
        · rw [cc_X6, cc_X6, h 46 (by decide), h 47 (by decide), h 48 (by decide), h 49 (by decide)]
        · rw [cc_X1, cc_X1, h 50 (by decide), h 51 (by decide)]
      · rcases Nat.lt_or_ge k 10 with h6 | h6
        · rw [cc_X0 h5 h6, cc_X0 h5 h6, h (13 + 3 * k) (by omega), h (14 + 3 * k) (by omega), h (k + 5) (by omega), h (15 + 3 * k) (by omega)]
        · rcases Nat.lt_or_ge k 16 with h7 | h7
          · rw [cc_X5 h6 h7, cc_X5 h6 h7, h (2 * k - 4) (by omega), h (2 * k - 3) (by omega)]
          · rw [cc_A h7 (by omega), cc_A h7 (by omega)]
    rw [e]
    exact hp
def adF (ad : Nat → Nat) (h0 q57 q58 q59 : Nat) (ut ur : Nat → Nat) : Nat → Nat := fun k => if k < 52 then ad k else if k = 52 then ut 0 else if k = 53 then ur 0 else if k = 54 then ur 1 else if k = 55 then ur 2 else if k = 56 then h0 else if k = 57 then q57 else if k = 58 then q58 else q59
theorem adF_lt {ad : Nat → Nat} {h0 q57 q58 q59 : Nat} {ut ur : Nat → Nat} {k : Nat} (h : k < 52) : adF ad h0 q57 q58 q59 ut ur k = ad k := if_pos h
/-- the cells that the constructor leaves, by their places -/
theorem fin_P {D : va_G} {ad : Nat → Nat} {cyI cyO : ClassId} {σ : St} {H : Heap} {h0 q57 q58 q59 : Nat} {ut ur u9 : Nat → Nat} (h1 : ∀ j, 1792 ≤ j → σ.1 j = 0) (h2 : ∀ k, 52 ≤ k → σ.2 k = fun _ => 0)
    (hP : va_P D vwCl ((h0, .inr (9, [.ref (ad 0), .ref q57, .ref q58, .ref q59])) :: (((gW (cCell ad cyI cyO) ad 52 σ ++ blkX8 cyI q57 ut) ++ blkX4 cyI q58 ur) ++ blkX7 cyI q59 u9)) H) : va_P D vwCl (gW (cCell (adF ad h0 q57 q58 q59 ut ur) cyI cyO) (adF ad h0 q57 q58 q59 ut ur) 60 σ) H := by
  intro k q hk
  have hlt := gW_lt hk
  rw [gW_get hlt] at hk
  cases hk
  have hz : ∀ i, ((h0, (Sum.inr (9, [.ref (ad 0), .ref q57, .ref q58, .ref q59]) : va_E)) :: (((gW (cCell ad cyI cyO) ad 52 σ ++ blkX8 cyI q57 ut) ++ blkX4 cyI q58 ur) ++ blkX7 cyI q59 u9))[53 + i]? = ((blkX8 cyI q57 ut ++ blkX4 cyI q58 ur) ++ blkX7 cyI q59 u9)[i]? := by
    intro i
    have hl : (gW (cCell ad cyI cyO) ad 52 σ).length = 52 := gW_len
    rw [show 53 + i = (52 + i) + 1 by omega, List.getElem?_cons_succ, List.append_assoc, List.append_assoc, List.getElem?_append_right (by omega), hl, Nat.add_sub_cancel_left, List.append_assoc]
  by_cases h52 : k < 52
  · have hk2 : ((h0, (Sum.inr (9, [.ref (ad 0), .ref q57, .ref q58, .ref q59]) : va_E)) :: (((gW (cCell ad cyI cyO) ad 52 σ ++ blkX8 cyI q57 ut) ++ blkX4 cyI q58 ur) ++ blkX7 cyI q59 u9))[k + 1]? = some (ad k, cCell ad cyI cyO σ k) := by
      have hl : (gW (cCell ad cyI cyO) ad 52 σ).length = 52 := gW_len
      rw [List.getElem?_cons_succ, List.append_assoc, List.append_assoc, List.getElem?_append_left (by omega), gW_get h52]
    have := hP _ _ hk2
    rw [adF_lt h52]
    exact cCell_ad (fun j hj => adF_lt hj) h52 this
  · have hc : k = 52 ∨ k = 53 ∨ k = 54 ∨ k = 55 ∨ k = 56 ∨ k = 57 ∨ k = 58 ∨ k = 59 := by omega
    have cA : ∀ j, 52 ≤ j → j < 56 → cCell (adF ad h0 q57 q58 q59 ut ur) cyI cyO σ j = .inl (cyI, cLen j, .inl (fun _ => 0)) := fun j a b => by rw [cc_A (by omega) b, h2 j a]
    rcases hc with rfl | rfl | rfl | rfl | rfl | rfl | rfl | rfl
    · rw [cA 52 (by decide) (by decide)]
      exact hP 54 _ ((hz 1).trans rfl)
    · rw [cA 53 (by decide) (by decide)]
      exact hP 56 _ ((hz 3).trans rfl)
    · rw [cA 54 (by decide) (by decide)]
      exact hP 57 _ ((hz 4).trans rfl)
    · rw [cA 55 (by decide) (by decide)]
      exact hP 58 _ ((hz 5).trans rfl)
    · exact hP 0 _ rfl
    · rw [cc_X8, h1 _ (by decide)]
      exact hP 53 _ ((hz 0).trans rfl)
    · rw [cc_X4, h1 _ (by decide), h1 _ (by decide), h1 _ (by decide)]
      exact hP 55 _ ((hz 2).trans rfl)
    · rw [cc_X7, h1 _ (by decide), h1 _ (by decide), h1 _ (by decide)]
      exact hP 59 _ ((hz 6).trans rfl)
theorem fin_D {A : Nat → Prop} {ad : Nat → Nat} {cyI cyO : ClassId} {σ : St} {h0 q57 q58 q59 : Nat} {ut ur u9 : Nat → Nat} {e0 : va_E}
    (hD : va_D A ((h0, e0) :: (((gW (cCell ad cyI cyO) ad 52 σ ++ blkX8 cyI q57 ut) ++ blkX4 cyI q58 ur) ++ blkX7 cyI q59 u9))) : va_D A (gW (cCell (adF ad h0 q57 q58 q59 ut ur) cyI cyO) (adF ad h0 q57 q58 q59 ut ur) 60 σ) := by
  have hl : (gW (cCell ad cyI cyO) ad 52 σ).length = 52 := gW_len
  have hz : ∀ i, ((h0, e0) :: (((gW (cCell ad cyI cyO) ad 52 σ ++ blkX8 cyI q57 ut) ++ blkX4 cyI q58 ur) ++ blkX7 cyI q59 u9))[53 + i]? = ((blkX8 cyI q57 ut ++ blkX4 cyI q58 ur) ++ blkX7 cyI q59 u9)[i]? := by
    intro i
    rw [show 53 + i = (52 + i) + 1 by omega, List.getElem?_cons_succ, List.append_assoc, List.append_assoc, List.getElem?_append_right (by omega), hl, Nat.add_sub_cancel_left, List.append_assoc]
  have key : ∀ k, k < 60 → ∃ e1, ((h0, e0) :: (((gW (cCell ad cyI cyO) ad 52 σ ++ blkX8 cyI q57 ut) ++ blkX4 cyI q58 ur) ++ blkX7 cyI q59 u9))[(if k < 52 then k + 1 else ([54, 56, 57, 58, 0, 53, 55, 59] : List Nat).getD (k - 52) 0)]? = some (adF ad h0 q57 q58 q59 ut ur k, e1) := by
    intro k hk
    by_cases h52 : k < 52
    · refine ⟨cCell ad cyI cyO σ k, ?_⟩
      rw [if_pos h52, List.getElem?_cons_succ, List.append_assoc, List.append_assoc, List.getElem?_append_left (by omega), gW_get h52, adF_lt h52]
    · have hc : k = 52 ∨ k = 53 ∨ k = 54 ∨ k = 55 ∨ k = 56 ∨ k = 57 ∨ k = 58 ∨ k = 59 := by omega
      rw [if_neg h52]
      rcases hc with rfl | rfl | rfl | rfl | rfl | rfl | rfl | rfl
      · exact ⟨_, (hz 1).trans rfl⟩
      · exact ⟨_, (hz 3).trans rfl⟩
      · exact ⟨_, (hz 4).trans rfl⟩
      · exact ⟨_, (hz 5).trans rfl⟩
      · exact ⟨_, rfl⟩
      · exact ⟨_, (hz 0).trans rfl⟩
      · exact ⟨_, (hz 2).trans rfl⟩
      · exact ⟨_, (hz 6).trans rfl⟩
  refine ⟨fun i j x y hi hj h => ?_, fun k x hk => ?_⟩
  · have li := gW_lt hi
    have lj := gW_lt hj
    rw [gW_get li] at hi
    rw [gW_get lj] at hj
    cases hi
    cases hj
    obtain ⟨e1, k1⟩ := key i li
    obtain ⟨e2, k2⟩ := key j lj
    have := hD.1 _ _ _ _ k1 k2 h
    have inj : ∀ i, i < 60 → ∀ j, j < 60 → (if i < 52 then i + 1 else ([54, 56, 57, 58, 0, 53, 55, 59] : List Nat).getD (i - 52) 0) = (if j < 52 then j + 1 else ([54, 56, 57, 58, 0, 53, 55, 59] : List Nat).getD (j - 52) 0) → i = j := by decide +kernel
    exact inj i li j lj this
  · have lk := gW_lt hk
    rw [gW_get lk] at hk
    cases hk
    obtain ⟨e1, k1⟩ := key k lk
    have h9 := hD.2 _ _ k1
    exact h9
abbrev rmciX9 : Room := { frames := 5, cells := 59, slots := 2784, locals := 110 }
set_option maxHeartbeats 8000000 in
set_option maxRecDepth 100000 in
theorem ciX9 {D : va_G} {cyI cyO : ClassId} {l : Launch} {h0 sz : Nat} {Φ : St → Prop} (hbeg : wpX2_begin (3 : Int32) zSt Φ) (hz : ∀ σ, Φ σ → (∀ j, 1792 ≤ j → σ.1 j = 0) ∧ ∀ k, 52 ≤ k → σ.2 k = fun _ => 0) : iMet D cyI cyO l yX9_init cX9_init 1 rmciX9 [.ref h0] [(h0, .inr (9, [.null, .null, .null, .null]))] sz (fun u : (Nat → Nat) × St => Φ u.2 ∧ u.1 56 = h0) (fun u => gW (cCell u.1 cyI cyO) u.1 60 u.2) 59 2784 := by
  refine iMet.of (by decide) rfl (Nat.le_of_ble_eq_true rfl) ?_
  intro p e s m below meth c ls hsz hin C hl wd
  subst hsz
  have C : Cx p s m _ meth c cX9_init 1 none RX9 := C
  obtain ⟨hx, hb, hr, hml, hown, hts, hlk⟩ := id C
  have hl : lv_has ls 1 [(0, .ref h0)] := hl
  refine lv_aload_n hx hb dX9_init_0 rfl (lv_at hl 0 rfl) ?_
  refine iObj C hl.1 tw1_18 (Nat.le_of_ble_eq_true rfl) (Nat.le_of_ble_eq_true rfl) dX9_init_1 ?_
  refine lv_aload_n hx hb dX9_init_4 rfl (lv_at hl 0 rfl) ?_
  refine iNew C wd (Cn := RX2) (T := TX2) (N := 6) (ci := 2) (ty := tyX2) (fs := [.int 0, .int 0, .null, .null, .null, .null]) inX2 tyX2_ok tw1_21 tw1_22 tw1_2 rfl (fun j hj => by rcases (show j = 0 ∨ j = 1 ∨ j = 2 ∨ j = 3 ∨ j = 4 ∨ j = 5 by omega) with rfl | rfl | rfl | rfl | rfl | rfl <;> rfl) (Nat.le_of_ble_eq_true rfl) (Nat.le_of_ble_eq_true rfl) dX9_init_5 (fun q0 H wd => ?_)
  refine lv_dup hx hb dX9_init_8 rfl ?_
  refine iCall (y := yX2_init) (As := []) (rest := [.ref q0, .ref h0]) C wd (ciX2 hbeg) ⟨rfl, rfl⟩ gi_X2_init rfl tw1_2 tw1_24 (Or.inl tw1_23) nki_X2_init ⟨(Nat.le_of_ble_eq_true rfl), (Nat.le_of_ble_eq_true rfl)⟩ hl.1 (Nat.le_of_ble_eq_true rfl) dX9_init_9 rfl ⟨(Nat.le_of_ble_eq_true rfl), (Nat.le_of_ble_eq_true rfl)⟩ (fun uo H locs huo wd => ?_)
  have wd : iWd D cyI cyO _ s _ _ ((h0, .inr (9, [.null, .null, .null, .null])) :: blkX2 cyI cyO uo) := wd
  refine iPutF C wd hin (a := h0) (k := 0) (ci := 9) (N := 4) (Cn := RX9) (T := TX9) (v := .ref q0) (ty := .object "OrphanLogs$Office") rfl rfl tyX9_ok nmX9 0 (by decide) rfl rfl (by decide +kernel) rfl rfl (Nat.le_of_ble_eq_true rfl) inX9 tw2_42 dX9_init_12 (fun H locs wd => ?_)
  have wd : iWd D cyI cyO _ s _ _ ((h0, .inr (9, [.ref q0, .null, .null, .null])) :: blkX2 cyI cyO uo) := wd
  refine lv_aload_n hx hb dX9_init_15 rfl (lv_at hl 0 rfl) ?_
  refine iNew C wd (Cn := RX8) (T := TX8) (N := 2) (ci := 8) (ty := tyX8) (fs := [.int 0, .null]) inX8 tyX8_ok tw1_219 tw1_220 tw1_9 rfl (fun j hj => by rcases (show j = 0 ∨ j = 1 by omega) with rfl | rfl <;> rfl) (Nat.le_of_ble_eq_true rfl) (Nat.le_of_ble_eq_true rfl) dX9_init_16 (fun q57 H wd => ?_)
  refine lv_dup hx hb dX9_init_19 rfl ?_
  refine iCall (y := yX8_init) (As := []) (rest := [.ref q57, .ref h0]) C wd ciX8 ⟨rfl, rfl⟩ gi_X8_init rfl tw1_9 tw1_222 (Or.inr ⟨_, ns_35⟩) nki_X8_init ⟨(Nat.le_of_ble_eq_true rfl), (Nat.le_of_ble_eq_true rfl)⟩ hl.1 (Nat.le_of_ble_eq_true rfl) dX9_init_20 rfl ⟨(Nat.le_of_ble_eq_true rfl), (Nat.le_of_ble_eq_true rfl)⟩ (fun ut H locs hut wd => ?_)
  have wd : iWd D cyI cyO _ s _ _ ((h0, .inr (9, [.ref q0, .null, .null, .null])) :: (blkX2 cyI cyO uo ++ blkX8 cyI q57 ut)) := wd
  refine iPutF C wd hin (a := h0) (k := 0) (ci := 9) (N := 4) (Cn := RX9) (T := TX9) (v := .ref q57) (ty := .object "OrphanLogs$Text") rfl rfl tyX9_ok nmX9 1 (by decide) rfl rfl (by decide +kernel) rfl rfl (Nat.le_of_ble_eq_true rfl) inX9 tw2_43 dX9_init_23 (fun H locs wd => ?_)
  have wd : iWd D cyI cyO _ s _ _ ((h0, .inr (9, [.ref q0, .ref q57, .null, .null])) :: (blkX2 cyI cyO uo ++ blkX8 cyI q57 ut)) := wd
  refine lv_aload_n hx hb dX9_init_26 rfl (lv_at hl 0 rfl) ?_
  refine iNew C wd (Cn := RX4) (T := TX4) (N := 6) (ci := 4) (ty := tyX4) (fs := [.int 0, .int 0, .int 0, .null, .null, .null]) inX4 tyX4_ok tw1_234 tw1_235 tw1_10 rfl (fun j hj => by rcases (show j = 0 ∨ j = 1 ∨ j = 2 ∨ j = 3 ∨ j = 4 ∨ j = 5 by omega) with rfl | rfl | rfl | rfl | rfl | rfl <;> rfl) (Nat.le_of_ble_eq_true rfl) (Nat.le_of_ble_eq_true rfl) dX9_init_27 (fun q58 H wd => ?_)
  refine lv_dup hx hb dX9_init_30 rfl ?_
  refine iCall (y := yX4_init) (As := []) (rest := [.ref q58, .ref h0]) C wd ciX4 ⟨rfl, rfl⟩ gi_X4_init rfl tw1_10 tw1_237 (Or.inr ⟨_, ns_38⟩) nki_X4_init ⟨(Nat.le_of_ble_eq_true rfl), (Nat.le_of_ble_eq_true rfl)⟩ hl.1 (Nat.le_of_ble_eq_true rfl) dX9_init_31 rfl ⟨(Nat.le_of_ble_eq_true rfl), (Nat.le_of_ble_eq_true rfl)⟩ (fun ur H locs hur wd => ?_)
  have wd : iWd D cyI cyO _ s _ _ ((h0, .inr (9, [.ref q0, .ref q57, .null, .null])) :: ((blkX2 cyI cyO uo ++ blkX8 cyI q57 ut) ++ blkX4 cyI q58 ur)) := wd
  refine iPutF C wd hin (a := h0) (k := 0) (ci := 9) (N := 4) (Cn := RX9) (T := TX9) (v := .ref q58) (ty := .object "OrphanLogs$Reader") rfl rfl tyX9_ok nmX9 2 (by decide) rfl rfl (by decide +kernel) rfl rfl (Nat.le_of_ble_eq_true rfl) inX9 tw2_44 dX9_init_34 (fun H locs wd => ?_)
  have wd : iWd D cyI cyO _ s _ _ ((h0, .inr (9, [.ref q0, .ref q57, .ref q58, .null])) :: ((blkX2 cyI cyO uo ++ blkX8 cyI q57 ut) ++ blkX4 cyI q58 ur)) := wd
  refine lv_aload_n hx hb dX9_init_37 rfl (lv_at hl 0 rfl) ?_
  refine iNew C wd (Cn := RX7) (T := TX7) (N := 3) (ci := 7) (ty := tyX7) (fs := [.int 0, .int 0, .int 0]) inX7 tyX7_ok tw2_23 tw2_24 tw1_11 rfl (fun j hj => by rcases (show j = 0 ∨ j = 1 ∨ j = 2 by omega) with rfl | rfl | rfl <;> rfl) (Nat.le_of_ble_eq_true rfl) (Nat.le_of_ble_eq_true rfl) dX9_init_38 (fun q59 H wd => ?_)
  refine lv_dup hx hb dX9_init_41 rfl ?_
  refine iCall (y := yX7_init) (As := []) (rest := [.ref q59, .ref h0]) C wd ciX7 ⟨rfl, rfl⟩ gi_X7_init rfl tw1_11 tw2_26 (Or.inr ⟨_, ns_43⟩) nki_X7_init ⟨(Nat.le_of_ble_eq_true rfl), (Nat.le_of_ble_eq_true rfl)⟩ hl.1 (Nat.le_of_ble_eq_true rfl) dX9_init_42 rfl ⟨(Nat.le_of_ble_eq_true rfl), (Nat.le_of_ble_eq_true rfl)⟩ (fun u9 H locs hu9 wd => ?_)
  have wd : iWd D cyI cyO _ s _ _ ((h0, .inr (9, [.ref q0, .ref q57, .ref q58, .null])) :: (((blkX2 cyI cyO uo ++ blkX8 cyI q57 ut) ++ blkX4 cyI q58 ur) ++ blkX7 cyI q59 u9)) := wd
  refine iPutF C wd hin (a := h0) (k := 0) (ci := 9) (N := 4) (Cn := RX9) (T := TX9) (v := .ref q59) (ty := .object "OrphanLogs$Tally") rfl rfl tyX9_ok nmX9 3 (by decide) rfl rfl (by decide +kernel) rfl rfl (Nat.le_of_ble_eq_true rfl) inX9 tw2_45 dX9_init_45 (fun H locs wd => ?_)
  have wd : iWd D cyI cyO _ s _ _ ((h0, .inr (9, [.ref q0, .ref q57, .ref q58, .ref q59])) :: (((blkX2 cyI cyO uo ++ blkX8 cyI q57 ut) ++ blkX4 cyI q58 ur) ++ blkX7 cyI q59 u9)) := wd
  obtain ⟨ad, τ⟩ := uo
  obtain ⟨hΦ, e0⟩ := huo
  dsimp only at hΦ e0
  subst e0
  obtain ⟨hK, hN, hO, hP, hD, hS⟩ := wd
  have hP1 := fin_P (hz τ hΦ).1 (hz τ hΦ).2 hP
  have hD1 := fin_D hD
  exact W.vret hx hb hr (fun t ht hW => ⟨⟨(adF ad h0 q57 q58 q59 ut ur, τ), rfl, ⟨hΦ, rfl⟩, by rw [ht]; exact hP1, hD1⟩, hS.F ht⟩) hS.2.2 dX9_init_48 hlk
def mSt0 : St := (fun j => if j = 0 then 3 else 0, fun _ _ => 0)
def adM (h0 : Nat) (u : Nat → Nat) : Nat → Nat := fun k => match k with
  | 0 => h0
  | k + 1 => u k
theorem blkM (cyI cyO : ClassId) (h0 : Nat) (u : Nat → Nat) : blkX10 cyI h0 u = gW (mCell (adM h0 u) cyI cyO) (adM h0 u) 16 mSt0 := rfl
