-- PURE PART: numbers, states, branches
theorem nI_lit (n : Nat) : (OfNat.ofNat n : Int32) = nI n := rfl
/-- a row's write, its index a natural number -/
def w2 (σ : St) (j i : Nat) (v : Int32) : St := (σ.1, fun b => if b = j then upd (σ.2 j) i v else σ.2 b)
theorem wr_nI (σ : St) (j : Nat) {i : Nat} (v : Int32) (h : i < 2 ^ 31) : wr σ j (nI i) v = w2 σ j i v := by
  unfold wr w2
  rw [nI_clamp h]
theorem rd_nI (σ : St) (j : Nat) {i : Nat} (h : i < 2 ^ 31) : rd σ j (nI i) = σ.2 j i := by
  unfold rd
  rw [nI_clamp h]
theorem w2_rd (σ : St) (j i : Nat) (v : Int32) (b k : Nat) : (w2 σ j i v).2 b k = if b = j then (if k = i then v else σ.2 j k) else σ.2 b k := by
  unfold w2
  by_cases h : b = j
  · subst h
    simp [upd]
  · simp [h]
theorem w2_1 (σ : St) (j i : Nat) (v : Int32) : (w2 σ j i v).1 = σ.1 := rfl
theorem w2_at (σ : St) (j i : Nat) (v : Int32) (k : Nat) : (w2 σ j i v).2 j k = if k = i then v else σ.2 j k := by
  rw [w2_rd, if_pos rfl]
theorem w2_ne (σ : St) {j b : Nat} (i : Nat) (v : Int32) (h : b ≠ j) : (w2 σ j i v).2 b = σ.2 b := by
  funext k
  rw [w2_rd, if_neg h]
theorem setI_1 (σ : St) (k : Nat) (v : Int32) (j : Nat) : (setI σ k v).1 j = if j = k then v else σ.1 j := rfl
theorem setI_2 (σ : St) (k : Nat) (v : Int32) : (setI σ k v).2 = σ.2 := rfl
theorem vpI {n N : Nat} (h : n < N) (hN : N < 2 ^ 31) : vp_in (nI n) N = True := eq_true (vp_in_nI h hN)
theorem leI {a b : Nat} (ha : a < 2 ^ 31) (hb : b < 2 ^ 31) : (nI a ≤ nI b) = (a ≤ b) := propext (nI_leI ha hb)
theorem ltI {a b : Nat} (ha : a < 2 ^ 31) (hb : b < 2 ^ 31) : (nI a < nI b) = (a < b) := propext (nI_ltI ha hb)
theorem eqI {a b : Nat} (ha : a < 2 ^ 31) (hb : b < 2 ^ 31) : (nI a = nI b) = (a = b) := propext (nI_eq ha hb)
theorem neI {a : Nat} (ha : a < 2 ^ 31) {m : Int32} (hm : m.toInt < 0) : (nI a = m) = False := by
  refine eq_false (fun h => ?_)
  have := nI_toInt ha
  rw [h] at this
  omega
theorem neI1 {a : Nat} (ha : a < 2 ^ 31) : (nI a = -1) = False := neI ha (by decide)
theorem neI2 {a : Nat} (ha : a < 2 ^ 31) : (nI a = -2) = False := neI ha (by decide)
theorem neI3 {a : Nat} (ha : a < 2 ^ 31) : (nI a = -3) = False := neI ha (by decide)
theorem neI4 {a : Nat} (ha : a < 2 ^ 31) : (nI a = -4) = False := neI ha (by decide)
theorem addI (a b : Nat) : nI a + nI b = nI (a + b) := nI_add a b
theorem mulI (a b : Nat) : nI a * nI b = nI (a * b) := pk_mul a b
theorem subI {a b : Nat} (h : b ≤ a) : nI a - nI b = nI (a - b) := pk_sub h
/-- truth as a number -/
noncomputable def b01 (P : Prop) : Int32 := @ite Int32 P (Classical.propDecidable P) 1 0
theorem b01_t {P : Prop} (h : P) : b01 P = 1 := @if_pos P (Classical.propDecidable P) h Int32 1 0
theorem b01_f {P : Prop} (h : ¬ P) : b01 P = 0 := @if_neg P (Classical.propDecidable P) h Int32 1 0
theorem b01_0 {P : Prop} : (b01 P = 0) = ¬ P := by
  by_cases h : P
  · rw [b01_t h]
    simp [h]
  · rw [b01_f h]
    simp [h]
theorem b01_1 {P : Prop} : (b01 P = 1) = P := by
  by_cases h : P
  · rw [b01_t h]
    simp [h]
  · rw [b01_f h]
    simp [h]
theorem b01_c {P Q : Prop} (h : P ↔ Q) : b01 P = b01 Q := by rw [propext h]
theorem b01_n (P : Prop) : narrow .boolean (.int (b01 P)) = .int (b01 P) := by
  by_cases h : P
  · rw [b01_t h]
    rfl
  · rw [b01_f h]
    rfl
theorem n01_0 : narrow .boolean (.int 0) = .int 0 := rfl
theorem n01_1 : narrow .boolean (.int 1) = .int 1 := rfl
theorem brB {P A B : Prop} (f : ¬ P → A) (g : P → B) : (b01 P = 0 → A) ∧ (¬ b01 P = 0 → B) := by
  rw [b01_0]
  exact ⟨f, fun h => g (Classical.not_not.mp h)⟩
theorem lgc_lt {x y : Int64} : (lg_cmp x y < 0) = (x < y) := by
  unfold lg_cmp
  by_cases h : x > y
  · rw [if_pos h]
    have : ¬ x < y := fun q => by
      have h1 := Int64.lt_iff_toInt_lt.mp h
      have h2 := Int64.lt_iff_toInt_lt.mp q
      omega
    exact propext ⟨fun q => absurd q (by decide), fun q => absurd q this⟩
  · rw [if_neg h]
    by_cases e : x = y
    · rw [if_pos e]
      have : ¬ x < y := fun q => by
        have h2 := Int64.lt_iff_toInt_lt.mp q
        rw [e] at h2
        omega
      exact propext ⟨fun q => absurd q (by decide), fun q => absurd q this⟩
    · rw [if_neg e]
      refine propext ⟨fun _ => ?_, fun _ => by decide⟩
      have h1 : ¬ y.toInt < x.toInt := fun q => h (Int64.lt_iff_toInt_lt.mpr q)
      have h2 : x.toInt ≠ y.toInt := fun q => e (Int64.toInt_inj.mp q)
      exact Int64.lt_iff_toInt_lt.mpr (by omega)
theorem lgc_gt {x y : Int64} : (0 < lg_cmp x y) = (y < x) := by
  unfold lg_cmp
  by_cases h : x > y
  · rw [if_pos h]
    exact propext ⟨fun _ => h, fun _ => by decide⟩
  · rw [if_neg h]
    by_cases e : x = y
    · rw [if_pos e]
      exact propext ⟨fun q => absurd q (by decide), fun q => absurd q h⟩
    · rw [if_neg e]
      exact propext ⟨fun q => absurd q (by decide), fun q => absurd q h⟩
theorem i64_lt {x y : Int32} : (x.toInt64 < y.toInt64) = (x < y) := by
  refine propext ?_
  rw [Int64.lt_iff_toInt_lt, Int32.lt_iff_toInt_lt, Int32.toInt_toInt64, Int32.toInt_toInt64]
theorem i64_lit (n : Nat) (h : n < 2 ^ 31) : (lN n) = (nI n).toInt64 := (nI_l h).symm
/-- the reference's range test -/
theorem pM_in {x lo hi : Int32} {σ : St} {Φ : Int32 → St → Prop} (h : Φ (b01 (lo ≤ x ∧ x ≤ hi)) σ) : wpX10_in x.toInt64 lo.toInt64 hi.toInt64 σ Φ := by
  unfold wpX10_in
  rw [lgc_lt, lgc_gt, i64_lt, i64_lt]
  refine ⟨fun h1 => ?_, fun h1 => ⟨fun h2 => ?_, fun h2 => ?_⟩⟩
  · rw [b01_f (fun q => by
      have a := Int32.lt_iff_toInt_lt.mp h1
      have b := Int32.le_iff_toInt_le.mp q.1
      omega)] at h
    exact h
  · rw [b01_f (fun q => by
      have a := Int32.lt_iff_toInt_lt.mp h2
      have b := Int32.le_iff_toInt_le.mp q.2
      omega)] at h
    exact h
  · rw [b01_t ⟨by
      have a : ¬ x.toInt < lo.toInt := fun q => h1 (Int32.lt_iff_toInt_lt.mpr q)
      exact Int32.le_iff_toInt_le.mpr (by omega), by
      have a : ¬ hi.toInt < x.toInt := fun q => h2 (Int32.lt_iff_toInt_lt.mpr q)
      exact Int32.le_iff_toInt_le.mpr (by omega)⟩] at h
    exact h
/-- what a number is, if it lies in a range of small numbers -/
theorem inR {x lo hi : Int32} {a b : Nat} (hlo : lo = nI a) (hhi : hi = nI b) (ha : a < 2 ^ 31) (hb : b < 2 ^ 31) (h : lo ≤ x ∧ x ≤ hi) : ∃ j : Nat, a ≤ j ∧ j ≤ b ∧ x = nI j := by
  have h1 := Int32.le_iff_toInt_le.mp h.1
  have h2 := Int32.le_iff_toInt_le.mp h.2
  rw [hlo, nI_toInt ha] at h1
  rw [hhi, nI_toInt hb] at h2
  refine ⟨x.toInt.toNat, by omega, by omega, ?_⟩
  apply Int32.toInt_inj.mp
  rw [nI_toInt (by omega)]
  omega
theorem inR_of {a b j : Nat} (hb : b < 2 ^ 31) (h1 : a ≤ j) (h2 : j ≤ b) : nI a ≤ nI j ∧ nI j ≤ nI b := ⟨(nI_leI (by omega) (by omega)).mpr h1, (nI_leI (by omega) (by omega)).mpr h2⟩
