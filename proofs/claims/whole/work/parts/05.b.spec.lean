-- THE COMMON MATHEMATICAL STATE: by tags
abbrev AS : Type := Nat → Nat → Nat → Nat → Nat
abbrev nA (a : AS) : Nat := a 0 0 0 0
abbrev life (a : AS) (c : Nat) : Nat := a 1 c 0 0
abbrev now (a : AS) (c : Nat) : Nat := a 2 c 0 0
abbrev wri (a : AS) (c : Nat) : Nat := a 3 c 0 0
abbrev frm (a : AS) (c : Nat) : Nat := a 4 c 0 0
abbrev ends (a : AS) (c l : Nat) : Nat := a 5 c l 0
abbrev pgl (a : AS) (c k : Nat) : Nat := a 6 c k 0
abbrev pgs (a : AS) (c k : Nat) : Nat := a 7 c k 0
abbrev rsl (a : AS) (c k d : Nat) : Nat := a 8 c k d
abbrev rsp (a : AS) (c k d : Nat) : Nat := a 9 c k d
abbrev lcn (a : AS) : Nat := a 10 0 0 0
abbrev lto (a : AS) (m : Nat) : Nat := a 11 m 0 0
abbrev lby (a : AS) (m : Nat) : Nat := a 12 m 0 0
abbrev lsm (a : AS) (m : Nat) : Nat := a 13 m 0 0
abbrev lrl (a : AS) (m d : Nat) : Nat := a 14 m d 0
abbrev lrp (a : AS) (m d : Nat) : Nat := a 15 m d 0
abbrev scn (a : AS) : Nat := a 16 0 0 0
abbrev sck (a : AS) (k : Nat) : Nat := a 17 k 0 0
abbrev spg (a : AS) (k : Nat) : Nat := a 18 k 0 0
abbrev sst (a : AS) (k : Nat) : Nat := a 19 k 0 0
abbrev rcn (a : AS) : Nat := a 20 0 0 0
abbrev rel (a : AS) (k : Nat) : Nat := a 21 k 0 0
abbrev gon (a : AS) : Nat := a 22 0 0 0
abbrev bdn (a : AS) : Nat := a 23 0 0 0
abbrev non (a : AS) : Nat := a 24 0 0 0
abbrev fln (a : AS) : Nat := a 25 0 0 0
abbrev tln (a : AS) : Nat := a 26 0 0 0
abbrev txt (a : AS) (i : Nat) : Nat := a 27 i 0 0
/-- the reference's place in the text: of no other meaning -/
abbrev plc (a : AS) : Nat := a 28 0 0 0
/-- the class's rows of orders -/
abbrev ocn (a : AS) : Nat := a 29 0 0 0
abbrev okd (a : AS) (i : Nat) : Nat := a 30 i 0 0
abbrev of1 (a : AS) (i : Nat) : Nat := a 31 i 0 0
abbrev of2 (a : AS) (i : Nat) : Nat := a 32 i 0 0
def sT (a : AS) (tag : Nat) (g : Nat → Nat → Nat → Nat) : AS := fun t => if t = tag then g else a t
-- THE REFERENCE'S STATE
def M1 (a : AS) (μ : St) : Prop := μ.1 0 = nI (nA a) ∧ (∀ c, c < 5 → μ.2 1 c = nI (life a c)) ∧ (∀ c, c < 5 → μ.2 2 c = nI (now a c)) ∧ (∀ c, c < 5 → μ.2 3 c = nI (wri a c)) ∧ (∀ c, c < 5 → μ.2 4 c = nI (frm a c))
def M2 (a : AS) (μ : St) : Prop := ∀ c, c < 5 → ∀ l, l < life a c → μ.2 5 (128 * c + l) = nI (ends a c l)
def M3 (a : AS) (μ : St) : Prop := (∀ c, c < 5 → ∀ k, k ≤ now a c → μ.2 6 (24 * c + k) = nI (pgl a c k)) ∧ (∀ c, c < 5 → ∀ k, k ≤ now a c → μ.2 7 (24 * c + k) = nI (pgs a c k)) ∧ (∀ c, c < 5 → ∀ k, k ≤ now a c → ∀ d, d < 5 → μ.2 8 (5 * (24 * c + k) + d) = nI (rsl a c k d)) ∧ (∀ c, c < 5 → ∀ k, k ≤ now a c → ∀ d, d < 5 → μ.2 9 (5 * (24 * c + k) + d) = nI (rsp a c k d))
def M4 (a : AS) (μ : St) : Prop := μ.1 11 = nI (lcn a) ∧ (∀ m, m < lcn a → μ.2 10 (13 * m) = nI (lto a m)) ∧ (∀ m, m < lcn a → μ.2 10 (13 * m + 1) = nI (lby a m)) ∧ (∀ m, m < lcn a → μ.2 10 (13 * m + 2) = nI (lsm a m)) ∧ (∀ m, m < lcn a → ∀ d, d < 5 → μ.2 10 (13 * m + 3 + d) = nI (lrl a m d)) ∧ (∀ m, m < lcn a → ∀ d, d < 5 → μ.2 10 (13 * m + 8 + d) = nI (lrp a m d))
def M5 (a : AS) (μ : St) : Prop := μ.1 13 = nI (scn a) ∧ (∀ k, k < scn a → μ.2 11 (3 * k) = nI (sck a k)) ∧ (∀ k, k < scn a → μ.2 11 (3 * k + 1) = nI (spg a k)) ∧ (∀ k, k < scn a → μ.2 11 (3 * k + 2) = nI (sst a k)) ∧ μ.1 15 = nI (rcn a) ∧ (∀ k, k < rcn a → μ.2 12 k = nI (rel a k))
def M6 (a : AS) (μ : St) : Prop := μ.1 16 = nI (gon a) ∧ μ.2 13 0 = nI (bdn a) ∧ μ.2 13 1 = nI (non a) ∧ μ.2 13 2 = nI (fln a)
def M7 (a : AS) (μ : St) : Prop := μ.1 22 = nI (tln a) ∧ (∀ i, i < tln a → μ.2 15 i = nI (txt a i)) ∧ μ.1 23 = nI (plc a)
def RepM (a : AS) (μ : St) : Prop := M1 a μ ∧ M2 a μ ∧ M3 a μ ∧ M4 a μ ∧ M5 a μ ∧ M6 a μ ∧ M7 a μ
-- THE CLASS'S STATE
def C1 (a : AS) (σ : St) : Prop := σ.1 0 = nI (nA a) ∧ (∀ c, c < 5 → σ.1 (32 * (5 + c) + 1) = nI (life a c)) ∧ (∀ c, c < 5 → σ.1 (32 * (5 + c) + 2) = nI (now a c)) ∧ (∀ c, c < 5 → σ.1 (32 * (5 + c) + 3) = nI (wri a c)) ∧ (∀ c, c < 5 → σ.1 (32 * (5 + c) + 4) = nI (frm a c))
def C2 (a : AS) (σ : St) : Prop := ∀ c, c < 5 → ∀ l, l < life a c → σ.2 (30 + 3 * c) l = nI (ends a c l)
def C3 (a : AS) (σ : St) : Prop := (∀ c, c < 5 → ∀ k, k ≤ now a c → σ.2 (28 + 3 * c) k = nI (pgl a c k)) ∧ (∀ c, c < 5 → ∀ k, k ≤ now a c → σ.2 (29 + 3 * c) k = nI (pgs a c k)) ∧ (∀ c, c < 5 → ∀ k, k ≤ now a c → ∀ d, d < 5 → σ.2 (16 + 2 * c) (5 * k + d) = nI (rsl a c k d)) ∧ (∀ c, c < 5 → ∀ k, k ≤ now a c → ∀ d, d < 5 → σ.2 (17 + 2 * c) (5 * k + d) = nI (rsp a c k d))
def C4 (a : AS) (σ : St) : Prop := σ.1 64 = nI (lcn a) ∧ (∀ m, m < lcn a → σ.2 44 m = nI (lto a m)) ∧ (∀ m, m < lcn a → σ.2 43 m = nI (lby a m)) ∧ (∀ m, m < lcn a → σ.2 45 m = nI (lsm a m)) ∧ (∀ m, m < lcn a → ∀ d, d < 5 → σ.2 26 (5 * m + d) = nI (lrl a m d)) ∧ (∀ m, m < lcn a → ∀ d, d < 5 → σ.2 27 (5 * m + d) = nI (lrp a m d))
def C5 (a : AS) (σ : St) : Prop := σ.1 96 = nI (scn a) ∧ (∀ k, k < scn a → σ.2 46 k = nI (sck a k)) ∧ (∀ k, k < scn a → σ.2 47 k = nI (spg a k)) ∧ (∀ k, k < scn a → σ.2 48 k = nI (sst a k)) ∧ σ.1 97 = nI (rcn a) ∧ (∀ k, k < rcn a → σ.2 49 k = nI (rel a k))
def C6 (a : AS) (σ : St) : Prop := σ.1 1 = nI (gon a) ∧ σ.1 1888 = nI (bdn a) ∧ σ.1 1889 = nI (non a) ∧ σ.1 1890 = nI (fln a)
def C7 (a : AS) (σ : St) : Prop := σ.1 1824 = nI (tln a) ∧ (∀ i, i < tln a → σ.2 52 i = nI (txt a i))
def C8 (a : AS) (σ : St) : Prop := σ.1 1856 = nI (ocn a) ∧ (∀ i, i < 60 → σ.2 53 i = nI (okd a i)) ∧ (∀ i, i < 60 → σ.2 54 i = nI (of1 a i)) ∧ (∀ i, i < 60 → σ.2 55 i = nI (of2 a i))
def RepC (a : AS) (σ : St) : Prop := C1 a σ ∧ C2 a σ ∧ C3 a σ ∧ C4 a σ ∧ C5 a σ ∧ C6 a σ ∧ C7 a σ ∧ C8 a σ
/-- the bounds -/
def Bd (a : AS) : Prop := (2 ≤ nA a ∧ nA a ≤ 5) ∧ (∀ c, c < 5 → now a c ≤ 23) ∧ (∀ c, c < 5 → wri a c ≤ now a c) ∧ (∀ c, c < 5 → frm a c ≤ now a c) ∧ (∀ c, c < 5 → life a c ≤ 60) ∧ lcn a ≤ 40 ∧ scn a ≤ 30 ∧ rcn a ≤ scn a ∧ tln a ≤ 120
/-- small values -/
def Sm (a : AS) : Prop := (∀ c, c < 5 → ∀ k, k ≤ now a c → pgs a c k < 1000003) ∧ (∀ m, m < lcn a → lsm a m < 1000003) ∧ (∀ c, c < 5 → ∀ k, k ≤ now a c → ∀ d, d < 5 → rsl a c k d ≤ 60 ∧ rsp a c k d ≤ 23) ∧ (∀ m, m < lcn a → ∀ d, d < 5 → lrl a m d ≤ 60 ∧ lrp a m d ≤ 23) ∧ (∀ c, c < 5 → ∀ l, l < life a c → ends a c l ≤ 23) ∧ (∀ c, c < 5 → ∀ k, k ≤ now a c → pgl a c k ≤ 60) ∧ (∀ m, m < lcn a → lto a m < nA a ∧ lby a m < nA a) ∧ (∀ k, k < scn a → sck a k < nA a ∧ spg a k ≤ 23 ∧ sst a k ≤ 2) ∧ (∀ k, k < rcn a → rel a k < scn a) ∧ (∀ i, i < tln a → txt a i < 128)
-- WHAT THE CALLS DO
def beginA (a : AS) (v : Nat) : AS := fun t => if t = 0 then (fun _ _ _ => v) else if t ≤ 22 then (fun _ _ _ => 0) else a t
def addA (a : AS) (c x : Nat) : AS :=
  sT (sT (sT (sT (sT a 2 (fun i _ _ => if i = c then now a c + 1 else a 2 i 0 0))
    6 (fun i j _ => if i = c ∧ j = now a c + 1 then life a c else a 6 i j 0))
    7 (fun i j _ => if i = c ∧ j = now a c + 1 then (3 * pgs a c (now a c) + x) % 1000003 else a 7 i j 0))
    8 (fun i j d => if i = c ∧ j = now a c + 1 then (if d = c then life a c else rsl a c (now a c) d) else a 8 i j d))
    9 (fun i j d => if i = c ∧ j = now a c + 1 then (if d = c then now a c + 1 else rsp a c (now a c) d) else a 9 i j d)
def sendA (a : AS) (c d : Nat) : AS :=
  sT (sT (sT (sT (sT (sT a 10 (fun _ _ _ => lcn a + 1))
    11 (fun m _ _ => if m = lcn a then d else a 11 m 0 0))
    12 (fun m _ _ => if m = lcn a then c else a 12 m 0 0))
    13 (fun m _ _ => if m = lcn a then pgs a c (now a c) else a 13 m 0 0))
    14 (fun m e _ => if m = lcn a then rsl a c (now a c) e else a 14 m e 0))
    15 (fun m e _ => if m = lcn a then rsp a c (now a c) e else a 15 m e 0)
def shf (m : Nat) (f : Nat → Nat → Nat → Nat) : Nat → Nat → Nat → Nat := fun i j k => if i < m then f i j k else f (i + 1) j k
def takeA (a : AS) (m : Nat) : AS :=
  sT (sT (sT (sT (sT (sT a 10 (fun _ _ _ => lcn a - 1)) 11 (shf m (a 11))) 12 (shf m (a 12))) 13 (shf m (a 13))) 14 (shf m (a 14))) 15 (shf m (a 15))
/-- the rest (l, p) of a letter is later than that of a page -/
def later (l p l0 p0 : Nat) : Prop := l0 < l ∨ (l = l0 ∧ p0 < p)
noncomputable def comeB (a : AS) (d m b : Nat) : AS :=
  sT (sT (addA a d (lsm a m))
    8 (fun i j e => @ite Nat (i = d ∧ j = now a d + 1 ∧ e < b ∧ e ≠ d ∧ later (lrl a m e) (lrp a m e) (rsl a d (now a d) e) (rsp a d (now a d) e)) (Classical.propDecidable _) (lrl a m e) ((addA a d (lsm a m)) 8 i j e)))
    9 (fun i j e => @ite Nat (i = d ∧ j = now a d + 1 ∧ e < b ∧ e ≠ d ∧ later (lrl a m e) (lrp a m e) (rsl a d (now a d) e) (rsp a d (now a d) e)) (Classical.propDecidable _) (lrp a m e) ((addA a d (lsm a m)) 9 i j e))
def deadR (a : AS) (c l k : Nat) : Prop := ∃ i, l ≤ i ∧ i < life a c ∧ ends a c i < k
def deadL (a : AS) (m : Nat) : Prop := ∃ c, c < nA a ∧ deadR a c (lrl a m c) (lrp a m c)
/-- how many of the first m letters go to d -/
def cntTo (a : AS) (d : Nat) : Nat → Nat
  | 0 => 0
  | m + 1 => cntTo a d m + (if lto a m = d then 1 else 0)
def isNth (a : AS) (d k m : Nat) : Prop := m < lcn a ∧ lto a m = d ∧ cntTo a d m = k
def writeA (a : AS) (c m : Nat) : AS := sT a 3 (fun i _ _ => if i = c then (if wri a c + m < now a c then wri a c + m else now a c) else a 3 i 0 0)
def writ (a : AS) (c k : Nat) : Prop := ∀ d, d < nA a → rsp a c k d ≤ wri a d
noncomputable def grt (p : Nat → Prop) : Nat → Nat
  | 0 => 0
  | k + 1 => @ite Nat (p (k + 1)) (Classical.propDecidable _) (k + 1) (grt p k)
noncomputable def firm (a : AS) (c : Nat) : Nat := grt (writ a c) (now a c)
noncomputable def cutA (a : AS) (c : Nat) : AS := sT a 4 (fun i _ _ => if i = c then (if frm a c < firm a c then firm a c else frm a c) else a 4 i 0 0)
/-- what a loss of c leaves to d -/
noncomputable def keep (a : AS) (c d : Nat) : Nat := if d = c then wri a c else grt (fun k => rsp a d k c ≤ wri a c) (now a d)
noncomputable def goneOf (a : AS) (c : Nat) : Nat → Nat
  | 0 => 0
  | d + 1 => goneOf a c d + (now a d - keep a c d)
def felled (a : AS) (c d : Nat) : Prop := d < nA a ∧ (d = c ∨ keep a c d < now a d)
noncomputable def lossA (a : AS) (c : Nat) : AS := fun t i j k =>
  @ite Nat (t = 1 ∧ felled a c i) (Classical.propDecidable _) (a 1 i j k + 1)
  (@ite Nat (t = 2 ∧ felled a c i) (Classical.propDecidable _) (keep a c i)
  (@ite Nat (t = 3 ∧ felled a c i) (Classical.propDecidable _) (if wri a i < keep a c i then wri a i else keep a c i)
  (@ite Nat (t = 5 ∧ felled a c i ∧ j = life a i) (Classical.propDecidable _) (keep a c i)
  (@ite Nat (t = 19 ∧ sst a i = 0 ∧ keep a c (sck a i) < spg a i) (Classical.propDecidable _) 2
  (if t = 22 then a 22 i j k + goneOf a c (nA a) else a t i j k)))))
def saysA (a : AS) (c : Nat) : AS :=
  sT (sT (sT (sT a 16 (fun _ _ _ => scn a + 1))
    17 (fun k _ _ => if k = scn a then c else a 17 k 0 0))
    18 (fun k _ _ => if k = scn a then now a c else a 18 k 0 0))
    19 (fun k _ _ => if k = scn a then 0 else a 19 k 0 0)
def badA (a : AS) : AS := sT a 23 (fun _ _ _ => bdn a + 1)
def noA (a : AS) : AS := sT a 24 (fun _ _ _ => non a + 1)
def fullA (a : AS) : AS := sT a 25 (fun _ _ _ => fln a + 1)
def typeA (a : AS) (v : Nat) : AS := sT (sT a 26 (fun _ _ _ => tln a + 1)) 27 (fun i _ _ => if i = tln a then v else a 27 i 0 0)
def clearA (a : AS) : AS := sT a 26 (fun _ _ _ => 0)
def heldN (a : AS) : Nat → Nat
  | 0 => 0
  | k + 1 => heldN a k + (if sst a k = 0 then 1 else 0)
def heldBy (a : AS) (c : Nat) : Nat → Nat
  | 0 => 0
  | k + 1 => heldBy a c k + (if sck a k = c ∧ sst a k = 0 then 1 else 0)
def safe (a : AS) (k : Nat) : Prop := sst a k = 0 ∧ writ a (sck a k) (spg a k)
