/-! layer 2: the placing, as whole numbers: holders (0: free, b + 1), what became of each booking, beds of persons (0: none, x + 1); a bed is x = 10 * room + bed, a spot 30 * x + night -/
abbrev PnQ : Type := RwQ × RwQ × RwQ
def bsy (ρ h : RwQ) (b x n : Nat) : Bool := staysQ ρ b n && decide (h (30 * x + n) ≠ 0)
def freeB (ρ h : RwQ) (b x : Nat) : Bool := decide (fstN (bsy ρ h b x) 30 = 30)
theorem freeB_bsy {ρ h : RwQ} {b x : Nat} : freeB ρ h b x = true ↔ fstN (bsy ρ h b x) 30 = 30 := by
  unfold freeB
  rw [decide_eq_true_iff]
theorem freeB_iff {ρ h : RwQ} {b x : Nat} : freeB ρ h b x = true ↔ ∀ n, n < 30 → staysQ ρ b n = true → h (30 * x + n) = 0 := by
  rw [freeB_bsy]
  constructor
  · intro q n hn hs
    have h2 := fstN_no (p := bsy ρ h b x) (n := 30) (i := n) (by omega)
    unfold bsy at h2
    rw [hs, Bool.true_and, decide_eq_false_iff_not] at h2
    omega
  · intro q
    refine fstN_eq (Nat.le_refl _) (fun i hi => ?_) (fun w => absurd w (by omega))
    unfold bsy
    by_cases hs : staysQ ρ b i = true
    · rw [q i hi hs, hs] <;> rfl
    · rw [Bool.eq_false_iff.mpr hs, Bool.false_and]
def freeC (ρ h : RwQ) (b r : Nat) : Nat := sumNQ (fun d => b1 (freeB ρ h b (10 * r + d))) (rmv ρ r 1)
def canU (ρ : RwQ) (b r : Nat) : Bool := decide (rmv ρ r 2 ≤ bkv ρ b 4)
def tkA (ρ : RwQ) (b r : Nat) : Bool := decide (rmv ρ r 0 = 0 ∨ (rmv ρ r 0 = 1 ∧ bkv ρ b 3 = 0) ∨ (rmv ρ r 0 = 2 ∧ bkv ρ b 2 = 0))
def fitR (ρ h : RwQ) (b r : Nat) : Bool := canU ρ b r && tkA ρ b r && decide (prs ρ b ≤ freeC ρ h b r)
def btr (ρ h : RwQ) (b best r : Nat) : Bool := decide (best = 0 ∨ freeC ρ h b r < freeC ρ h b (best - 1) ∨ (freeC ρ h b r = freeC ρ h b (best - 1) ∧ rmv ρ r 3 < rmv ρ (best - 1) 3))
def orS (ρ h : RwQ) (b : Nat) : Nat → Nat
  | 0 => 0
  | k + 1 => if fitR ρ h b k = true ∧ btr ρ h b (orS ρ h b k) k = true then k + 1 else orS ρ h b k
def orR (ρ h : RwQ) (b : Nat) : Nat := orS ρ h b (ρ 4)
def sumKT (ρ : RwQ) (F : Nat → Nat) (S kd r : Nat) : Nat := if S / 2 ^ r % 2 = 1 ∧ rmv ρ r 0 = kd then F r else 0
def sumK (ρ : RwQ) (F : Nat → Nat) (S kd : Nat) : Nat := sumNQ (sumKT ρ F S kd) (ρ 4)
def enoughQ (ρ : RwQ) (F : Nat → Nat) (b S : Nat) : Bool := decide ((bkv ρ b 2 - sumK ρ F S 1) + (bkv ρ b 3 - sumK ρ F S 2) ≤ sumK ρ F S 0)
def pc (S : Nat) : Nat := sumNQ (fun k => S / 2 ^ k % 2) 8
def nsub (ρ : RwQ) (b S r : Nat) : Bool := decide (S / 2 ^ r % 2 = 1) && !canU ρ b r
def subM (ρ : RwQ) (b S : Nat) : Bool := decide (fstN (nsub ρ b S) (ρ 4) = ρ 4)
theorem subM_iff {ρ : RwQ} {b S : Nat} : subM ρ b S = true ↔ ∀ r, r < ρ 4 → S / 2 ^ r % 2 = 1 → canU ρ b r = true := by
  unfold subM
  rw [decide_eq_true_iff]
  constructor
  · intro q r hr hs
    have h2 := fstN_no (p := nsub ρ b S) (n := ρ 4) (i := r) (by omega)
    unfold nsub at h2
    rw [decide_eq_true hs, Bool.true_and] at h2
    simpa using h2
  · intro q
    refine fstN_eq (Nat.le_refl _) (fun i hi => ?_) (fun w => absurd w (by omega))
    unfold nsub
    by_cases hs : S / 2 ^ i % 2 = 1
    · rw [q i hi hs]; simp
    · rw [decide_eq_false hs, Bool.false_and]
def stSQ (ρ h : RwQ) (b : Nat) : Nat → Nat
  | 0 => 0
  | k + 1 => if subM ρ b (k + 1) = true ∧ (stSQ ρ h b k = 0 ∨ pc (k + 1) < pc (stSQ ρ h b k)) ∧ enoughQ ρ (freeC ρ h b) b (k + 1) = true then k + 1 else stSQ ρ h b k
def stRQ (ρ h : RwQ) (b : Nat) : Nat := stSQ ρ h b (2 ^ (ρ 4) - 1)
def okB (ρ h : RwQ) (b S kd x : Nat) : Bool := decide (x % 10 < rmv ρ (x / 10) 1 ∧ S / 2 ^ (x / 10) % 2 = 1 ∧ rmv ρ (x / 10) 0 = kd) && freeB ρ h b x
def ffB (ρ h : RwQ) (b S kd : Nat) : Nat := fstN (okB ρ h b S kd) (10 * ρ 4)
def bedFor (ρ h : RwQ) (b S p : Nat) : Nat := if ffB ρ h b S (if p < bkv ρ b 2 then 1 else 2) < 10 * ρ 4 then ffB ρ h b S (if p < bkv ρ b 2 then 1 else 2) else ffB ρ h b S 0
def tkH (ρ h : RwQ) (b x : Nat) : RwQ := fun i => if i / 30 = x ∧ staysQ ρ b (i % 30) = true then b + 1 else h i
def gvS (ρ : RwQ) (b S : Nat) (h sl : RwQ) : Nat → RwQ × RwQ
  | 0 => (h, sl)
  | k + 1 => if bedFor ρ (gvS ρ b S h sl k).1 b S k < 10 * ρ 4 then (tkH ρ (gvS ρ b S h sl k).1 b (bedFor ρ (gvS ρ b S h sl k).1 b S k), upQ (gvS ρ b S h sl k).2 (12 * b + k) (bedFor ρ (gvS ρ b S h sl k).1 b S k + 1)) else gvS ρ b S h sl k
def setOfQ (ρ h : RwQ) (b : Nat) : Nat := if orR ρ h b = 0 then (if bkv ρ b 6 = 1 then 0 else stRQ ρ h b) else 2 ^ (orR ρ h b - 1)
def becOf (ρ h : RwQ) (b : Nat) : Nat := if orR ρ h b = 0 then (if setOfQ ρ h b = 0 then 3 else 2) else 1
def plc1 (ρ : RwQ) (b : Nat) (π : PnQ) : PnQ :=
  if setOfQ ρ π.1 b = 0 then (π.1, upQ π.2.1 b 3, π.2.2) else ((gvS ρ b (setOfQ ρ π.1 b) π.1 π.2.2 (prs ρ b)).1, upQ π.2.1 b (becOf ρ π.1 b), (gvS ρ b (setOfQ ρ π.1 b) π.1 π.2.2 (prs ρ b)).2)
def isPl (ρ : RwQ) (b n : Nat) : Bool := decide (bkv ρ b 8 = 1 ∧ bkv ρ b 7 = 0 ∧ bkv ρ b 0 = n)
def plB (ρ : RwQ) (n : Nat) (π : PnQ) : Nat → PnQ
  | 0 => π
  | k + 1 => if isPl ρ k n = true then plc1 ρ k (plB ρ n π k) else plB ρ n π k
def plN (ρ : RwQ) : Nat → PnQ
  | 0 => (fun _ => 0, fun _ => 0, fun _ => 0)
  | n + 1 => plB ρ n (plN ρ n) (ρ 37)
def plc (ρ : RwQ) : PnQ := plN ρ 30
/-- bounds -/
def PBQ (π : PnQ) : Prop := (∀ i, π.1 i ≤ 17) ∧ (∀ b, π.2.1 b ≤ 3) ∧ (∀ i, π.2.2 i ≤ 80)
theorem freeC_le {ρ h : RwQ} {b r : Nat} : freeC ρ h b r ≤ rmv ρ r 1 := by
  have := sumN_le (f := fun d => b1 (freeB ρ h b (10 * r + d))) (c := 1) (n := rmv ρ r 1) (fun d _ => b1_le _)
  unfold freeC
  omega
theorem orS_le {ρ h : RwQ} {b : Nat} : ∀ k, orS ρ h b k ≤ k := by
  intro k
  induction k with
  | zero => exact Nat.le_refl _
  | succ k ih =>
    unfold orS
    split
    · exact Nat.le_refl _
    · omega
theorem sumK_le {ρ : RwQ} {F : Nat → Nat} {S kd : Nat} (h8 : ρ 4 ≤ 8) (hF : ∀ r, r < ρ 4 → F r ≤ 10) : sumK ρ F S kd ≤ 80 := by
  have := sumN_le (f := sumKT ρ F S kd) (c := 10) (n := ρ 4) (fun r hr => by
    unfold sumKT
    split
    · exact hF r hr
    · omega)
  unfold sumK
  omega
theorem stS_le {ρ h : RwQ} {b : Nat} : ∀ k, stSQ ρ h b k ≤ k := by
  intro k
  induction k with
  | zero => exact Nat.le_refl _
  | succ k ih =>
    unfold stSQ
    split
    · exact Nat.le_refl _
    · omega
theorem pow_le {n : Nat} (h : n ≤ 8) : 2 ^ n ≤ 256 := Nat.pow_le_pow_right (by omega) h
theorem pow_pos (n : Nat) : 0 < 2 ^ n := Nat.two_pow_pos n
theorem stR_lt {ρ h : RwQ} {b : Nat} (h8 : ρ 4 ≤ 8) : stRQ ρ h b < 2 ^ (ρ 4) := by
  have h1 := stS_le (ρ := ρ) (h := h) (b := b) (2 ^ (ρ 4) - 1)
  have h2 := pow_pos (ρ 4)
  unfold stRQ
  omega
theorem setOf_lt {ρ h : RwQ} {b : Nat} (h8 : ρ 4 ≤ 8) : setOfQ ρ h b < 256 := by
  have h1 := stR_lt (h := h) (b := b) h8
  have h2 := pow_le h8
  have h3 := orS_le (ρ := ρ) (h := h) (b := b) (ρ 4)
  unfold setOfQ
  split
  · split <;> omega
  · have : 2 ^ (orR ρ h b - 1) ≤ 2 ^ 7 := Nat.pow_le_pow_right (by omega) (by unfold orR; omega)
    omega
theorem up_le {f : RwQ} {k v c : Nat} (h : ∀ i, f i ≤ c) (hv : v ≤ c) : ∀ i, upQ f k v i ≤ c := by
  intro i
  unfold upQ
  split
  · exact hv
  · exact h i
theorem PB_gvS {ρ : RwQ} {b S : Nat} {h sl : RwQ} (hb : b < 17) (h8 : ρ 4 ≤ 8) (h1 : ∀ i, h i ≤ 17) (h2 : ∀ i, sl i ≤ 80) : ∀ k, (∀ i, (gvS ρ b S h sl k).1 i ≤ 17) ∧ (∀ i, (gvS ρ b S h sl k).2 i ≤ 80) := by
  intro k
  induction k with
  | zero => exact ⟨h1, h2⟩
  | succ k ih =>
    unfold gvS
    split
    · refine ⟨fun i => ?_, fun i => ?_⟩
      · show tkH ρ (gvS ρ b S h sl k).1 b (bedFor ρ (gvS ρ b S h sl k).1 b S k) i ≤ 17
        unfold tkH
        split
        · exact Nat.succ_le_of_lt hb
        · exact ih.1 i
      · next hx =>
        exact up_le ih.2 (Nat.succ_le_of_lt (Nat.lt_of_lt_of_le hx (by omega))) i
    · exact ih
theorem becOf_le {ρ h : RwQ} {b : Nat} : becOf ρ h b ≤ 3 := by
  unfold becOf
  split
  · split <;> omega
  · omega
theorem PB_plc1 {ρ : RwQ} {b : Nat} {π : PnQ} (hb : b < 17) (h8 : ρ 4 ≤ 8) (h : PBQ π) : PBQ (plc1 ρ b π) := by
  unfold plc1
  split
  · exact ⟨h.1, up_le h.2.1 (by omega), h.2.2⟩
  · have := PB_gvS (S := setOfQ ρ π.1 b) hb h8 h.1 h.2.2 (prs ρ b)
    exact ⟨this.1, up_le h.2.1 becOf_le, this.2⟩
theorem PB_plB {ρ : RwQ} {n : Nat} {π : PnQ} (h8 : ρ 4 ≤ 8) (h : PBQ π) : ∀ k, k ≤ 17 → PBQ (plB ρ n π k) := by
  intro k
  induction k with
  | zero => intro _; exact h
  | succ k ih =>
    intro hk
    unfold plB
    split
    · exact PB_plc1 (by omega) h8 (ih (by omega))
    · exact ih (by omega)
theorem PB_plN {ρ : RwQ} (hW : WF ρ) : ∀ n, PBQ (plN ρ n) := by
  intro n
  induction n with
  | zero => exact ⟨fun _ => Nat.zero_le _, fun _ => Nat.zero_le _, fun _ => Nat.zero_le _⟩
  | succ n ih => exact PB_plB hW.1 ih _ hW.2.1
/-- a holder as the reference has it -/
def mI (v : Nat) : Int32 := nI v + (-1)
theorem mI_0 : mI 0 = -nI 1 := by decide +kernel
theorem mI_s (b : Nat) : mI (b + 1) = nI b := pk_m1 b
theorem mI_z {v : Nat} (h : v < 2 ^ 31) : mI v = -nI 1 ↔ v = 0 := by
  cases v with
  | zero => exact ⟨fun _ => rfl, fun _ => mI_0⟩
  | succ v =>
    rw [mI_s]
    exact ⟨fun q => absurd q (nI_m1 (by omega)), fun q => absurd q (by omega)⟩
/-- the reference's rows of the placing -/
def PMQ (μ : Mem) (π : PnQ) : Prop := (∀ i, i < 2400 → rI μ 76 0 i = mI (π.1 i)) ∧ (∀ b, b < 17 → rI μ 77 0 b = nI (π.2.1 b)) ∧ (∀ i, i < 204 → π.2.2 i ≠ 0 → rI μ 78 0 i = nI ((π.2.2 i - 1) / 10) ∧ rI μ 79 0 i = nI ((π.2.2 i - 1) % 10))
def KPm (k j _r : Nat) : Prop := (76 ≤ k ∧ k ≤ 80) ∧ j = 0
theorem PM_fr {K : Nat → Nat → Nat → Prop} {μ μ2 : Mem} {π : PnQ} (h : PMQ μ π) (F : FrQ K μ μ2) (hk : ∀ k r, 76 ≤ k → k ≤ 79 → ¬ K k 0 r) : PMQ μ2 π :=
  ⟨fun i hi => by rw [F.1 _ _ _ (hk 76 i (by omega) (by omega))]; exact h.1 i hi, fun b hb => by rw [F.1 _ _ _ (hk 77 b (by omega) (by omega))]; exact h.2.1 b hb, fun i hi h0 => by rw [F.1 _ _ _ (hk 78 i (by omega) (by omega)), F.1 _ _ _ (hk 79 i (by omega) (by omega))]; exact h.2.2 i hi h0⟩
