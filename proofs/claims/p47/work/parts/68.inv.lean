/-! layer 2: what a placing is like: holders and beds agree, each room of a set is used, what is paid -/
def plcd (π : PnQ) (v : Nat) : Prop := π.2.1 v = 1 ∨ π.2.1 v = 2
theorem plcd_dec (π : PnQ) (v : Nat) : plcd π v ∨ ¬ plcd π v := Classical.em _
def PI (ρ : RwQ) (π : PnQ) : Prop :=
  (∀ x n, n < 30 → π.1 (30 * x + n) ≠ 0 → ∃ v, π.1 (30 * x + n) = v + 1 ∧ v < ρ 37 ∧ staysQ ρ v n = true ∧ plcd π v ∧ ∃ p, p < prs ρ v ∧ π.2.2 (12 * v + p) = x + 1) ∧
  (∀ v, v < ρ 37 → plcd π v → ∀ p, p < prs ρ v → ∃ x, π.2.2 (12 * v + p) = x + 1 ∧ x < 10 * ρ 4 ∧ x % 10 < rmv ρ (x / 10) 1 ∧ ∀ n, n < 30 → staysQ ρ v n = true → π.1 (30 * x + n) = v + 1)
section
variable {ρ : RwQ} {b S : Nat} {h sl : RwQ}
theorem gv_b : ∀ k, (∀ p, p < k → bdN ρ b S h sl p < 10 * ρ 4) → ∀ x n, n < 30 → (gvS ρ b S h sl k).1 (30 * x + n) = h (30 * x + n) ∨ ((gvS ρ b S h sl k).1 (30 * x + n) = b + 1 ∧ staysQ ρ b n = true ∧ ∃ p, p < k ∧ bdN ρ b S h sl p = x) := by
  intro k
  induction k with
  | zero => intro _ x n _; exact Or.inl rfl
  | succ k ih =>
    intro hk x n hn
    rw [gvS_suc (hk k (by omega))]
    show tkH ρ (gvS ρ b S h sl k).1 b (bdN ρ b S h sl k) (30 * x + n) = _ ∨ tkH ρ (gvS ρ b S h sl k).1 b (bdN ρ b S h sl k) (30 * x + n) = _ ∧ _
    have e1 : (30 * x + n) / 30 = x := by omega
    have e2 : (30 * x + n) % 30 = n := by omega
    unfold tkH
    rw [e1, e2]
    by_cases q : x = bdN ρ b S h sl k ∧ staysQ ρ b n = true
    · rw [if_pos q]
      exact Or.inr ⟨rfl, q.2, k, by omega, q.1.symm⟩
    · rw [if_neg q]
      rcases ih (fun p hp => hk p (by omega)) x n hn with w | ⟨w1, w2, p, p1, p2⟩
      · exact Or.inl w
      · exact Or.inr ⟨w1, w2, p, by omega, p2⟩
theorem gv_a : ∀ k, (∀ p, p < k → bdN ρ b S h sl p < 10 * ρ 4) → ∀ p, p < k → ∀ n, n < 30 → staysQ ρ b n = true → (gvS ρ b S h sl k).1 (30 * bdN ρ b S h sl p + n) = b + 1 := by
  intro k
  induction k with
  | zero => intro _ p hp; exact absurd hp (Nat.not_lt_zero _)
  | succ k ih =>
    intro hk p hp n hn hs
    rw [gvS_suc (hk k (by omega))]
    show tkH ρ (gvS ρ b S h sl k).1 b (bdN ρ b S h sl k) (30 * bdN ρ b S h sl p + n) = _
    have e1 : (30 * bdN ρ b S h sl p + n) / 30 = bdN ρ b S h sl p := by omega
    have e2 : (30 * bdN ρ b S h sl p + n) % 30 = n := by omega
    unfold tkH
    rw [e1, e2]
    by_cases q : bdN ρ b S h sl p = bdN ρ b S h sl k
    · rw [if_pos ⟨q, hs⟩]
    · rw [if_neg (fun w => q w.1)]
      have hpk : p ≠ k := fun e => q (by rw [e])
      exact ih (fun p hp => hk p (by omega)) p (by omega) n hn hs
theorem gv_c {k : Nat} (hk : ∀ p, p < k → bdN ρ b S h sl p < 10 * ρ 4) {p : Nat} (hp : p < k) {n : Nat} (hn : n < 30) (hs : staysQ ρ b n = true) : h (30 * bdN ρ b S h sl p + n) = 0 := by
  obtain ⟨-, -, -, o4⟩ := bdN_ok (hk p hp)
  have h1 := freeB_iff.mp o4 n hn hs
  rcases gv_b p (fun i hi => hk i (by omega)) (bdN ρ b S h sl p) n hn with w | w
  · rw [← w]; exact h1
  · rw [w.1] at h1; omega
theorem gv_d : ∀ k, (∀ p, p < k → bdN ρ b S h sl p < 10 * ρ 4) → (∀ p, p < k → (gvS ρ b S h sl k).2 (12 * b + p) = bdN ρ b S h sl p + 1) ∧ (∀ i, (∀ p, p < k → i ≠ 12 * b + p) → (gvS ρ b S h sl k).2 i = sl i) := by
  intro k
  induction k with
  | zero => intro _; exact ⟨fun p hp => absurd hp (Nat.not_lt_zero _), fun i _ => rfl⟩
  | succ k ih =>
    intro hk
    obtain ⟨i1, i2⟩ := ih (fun p hp => hk p (by omega))
    rw [gvS_suc (hk k (by omega))]
    refine ⟨fun p hp => ?_, fun i hi => ?_⟩
    · show upQ (gvS ρ b S h sl k).2 (12 * b + k) (bdN ρ b S h sl k + 1) (12 * b + p) = _
      by_cases q : p = k
      · subst q; rw [up_s]
      · rw [up_n (by omega)]; exact i1 p (by omega)
    · show upQ (gvS ρ b S h sl k).2 (12 * b + k) (bdN ρ b S h sl k + 1) i = _
      rw [up_n (hi k (by omega))]
      exact i2 i (fun p hp => hi p (by omega))
end
section
variable {ρ : RwQ} {π : PnQ} {b : Nat}
theorem setOf_pow {ρ h : RwQ} {b : Nat} (h8 : ρ 4 ≤ 8) : setOfQ ρ h b < 2 ^ (ρ 4) := by
  have h1 := stR_lt (h := h) (b := b) h8
  have h3 := orS_le (ρ := ρ) (h := h) (b := b) (ρ 4)
  have h4 := pow_pos (ρ 4)
  unfold setOfQ
  split
  · split <;> omega
  · exact Nat.pow_lt_pow_right (by omega) (by unfold orR; unfold orR at *; omega)
theorem bit_pow {r k : Nat} : 2 ^ r / 2 ^ k % 2 = if k = r then 1 else 0 := by
  rw [bit_t, Nat.testBit_two_pow]
  by_cases q : k = r
  · rw [if_pos q, decide_eq_true q.symm] <;> rfl
  · rw [if_neg q, decide_eq_false (fun w => q w.symm)] <;> rfl
/-- a set that a group gets is enoughQ for it, and each of its rooms is used -/
theorem setOf_ok {h sl : RwQ} (hW : WF ρ) (hb : b < ρ 37) (hne : setOfQ ρ h b ≠ 0) : enoughQ ρ (freeC ρ h b) b (setOfQ ρ h b) = true ∧ (∀ p, p < prs ρ b → bdN ρ b (setOfQ ρ h b) h sl p < 10 * ρ 4) ∧ (∀ r, r < ρ 4 → setOfQ ρ h b / 2 ^ r % 2 = 1 → ∃ p, p < prs ρ b ∧ bdN ρ b (setOfQ ρ h b) h sl p / 10 = r) := by
  have h8 := hW.1
  have hp := WF_prs hW hb
  have hw := hW.2.2.2.2 b hb
  have hlt := setOf_pow (h := h) (b := b) h8
  have hex : ∀ r, usd ρ b (setOfQ ρ h b) h sl r (prs ρ b) ≠ 0 → ∃ p, p < prs ρ b ∧ bdN ρ b (setOfQ ρ h b) h sl p / 10 = r := by
    intro r hu
    obtain ⟨p, p1, p2⟩ := sumN_pos (Nat.pos_of_ne_zero hu)
    refine ⟨p, p1, ?_⟩
    by_cases q : bdN ρ b (setOfQ ρ h b) h sl p / 10 = r
    · exact q
    · rw [if_neg q] at p2; exact absurd p2 (Nat.lt_irrefl _)
  by_cases q1 : orR ρ h b = 0
  · have e : setOfQ ρ h b = if bkv ρ b 6 = 1 then 0 else stRQ ρ h b := by unfold setOfQ; rw [if_pos q1]
    by_cases q2 : bkv ρ b 6 = 1
    · rw [if_pos q2] at e; exact absurd e hne
    · rw [if_neg q2] at e
      obtain ⟨s1, s2⟩ := stS_min (ρ := ρ) (h := h) (b := b) (2 ^ (ρ 4) - 1)
      have eR : stRQ ρ h b = stSQ ρ h b (2 ^ (ρ 4) - 1) := rfl
      rw [← eR, ← e] at s1 s2
      obtain ⟨k1, k2⟩ := s1 hne
      refine ⟨k2, (give_all hW hb k2 (prs ρ b) (Nat.le_refl _)).2, fun r hr hbit => hex r ?_⟩
      refine used_all hW hb hlt k1 k2 (fun T t1 t2 t3 t4 => ?_) hr hbit
      have := (s2 T t1 (by omega) t3 t4).2
      omega
  · have e : setOfQ ρ h b = 2 ^ (orR ρ h b - 1) := by unfold setOfQ; rw [if_neg q1]
    have hor := orS_le (ρ := ρ) (h := h) (b := b) (ρ 4)
    have hfit : fitR ρ h b (orR ρ h b - 1) = true := orS_fit (ρ 4) q1
    have hr4 : orR ρ h b - 1 < ρ 4 := by unfold orR at q1 ⊢; omega
    obtain ⟨f1, f2, f3⟩ := fitR_dec.mp hfit
    have hK : ∀ kd, sumK ρ (freeC ρ h b) (setOfQ ρ h b) kd = if rmv ρ (orR ρ h b - 1) 0 = kd then freeC ρ h b (orR ρ h b - 1) else 0 := by
      intro kd
      rw [e]
      have := sumN_up (f := sumKT ρ (freeC ρ h b) (2 ^ (orR ρ h b - 1)) kd) (g := fun _ => 0) (n := ρ 4) (k := orR ρ h b - 1) hr4 (fun i _ hni => by
        unfold sumKT
        rw [bit_pow, if_neg hni]
        exact if_neg (fun w => absurd w.1 (by decide)))
      rw [sumN_zero (f := fun _ => 0) (fun _ _ => rfl)] at this
      unfold sumK
      try dsimp only at this
      rw [Nat.add_zero, Nat.zero_add] at this
      rw [this]
      unfold sumKT
      rw [bit_pow, if_pos rfl]
      by_cases q : rmv ρ (orR ρ h b - 1) 0 = kd
      · rw [if_pos ⟨rfl, q⟩, if_pos q]
      · rw [if_neg (fun w => q w.2), if_neg q]
    have hE : enoughQ ρ (freeC ρ h b) b (setOfQ ρ h b) = true := by
      unfold enoughQ
      rw [hK, hK, hK]
      apply decide_eq_true
      have ht := of_decide_eq_true f2
      have hpe : prs ρ b = bkv ρ b 2 + bkv ρ b 3 := rfl
      rcases ht with t | t | t
      · rw [t, if_neg (by omega), if_neg (by omega), if_pos rfl]; omega
      · rw [t.1, if_pos rfl, if_neg (by omega), if_neg (by omega)]; omega
      · rw [t.1, if_neg (by omega), if_pos rfl, if_neg (by omega)]; omega
    have hall := (give_all (sl := sl) hW hb hE (prs ρ b) (Nat.le_refl _)).2
    refine ⟨hE, hall, fun r hr hbit => ⟨0, by omega, ?_⟩⟩
    have o2 := (bdN_ok (hall 0 (by omega))).2.1
    rw [e, bit_pow] at hbit o2
    by_cases w1 : r = orR ρ h b - 1
    · by_cases w2 : bdN ρ b (setOfQ ρ h b) h sl 0 / 10 = orR ρ h b - 1
      · rw [w2, w1]
      · rw [e] at w2
        rw [if_neg w2] at o2; omega
    · rw [if_neg w1] at hbit; omega
def orF (f : Nat → Nat) : Nat → Nat
  | 0 => 0
  | k + 1 => orF f k ||| 2 ^ (f k)
theorem orF_bit (f : Nat → Nat) : ∀ k r, (orF f k).testBit r = true ↔ ∃ p, p < k ∧ f p = r := by
  intro k
  induction k with
  | zero =>
    intro r
    constructor
    · intro q
      have : (0 : Nat).testBit r = true := q
      rw [Nat.zero_testBit] at this; cases this
    · rintro ⟨p, hp, -⟩; omega
  | succ k ih =>
    intro r
    show (orF f k ||| 2 ^ (f k)).testBit r = true ↔ _
    rw [Nat.testBit_or, Bool.or_eq_true, ih r, Nat.testBit_two_pow, decide_eq_true_iff]
    constructor
    · rintro (⟨p, p1, p2⟩ | q)
      · exact ⟨p, by omega, p2⟩
      · exact ⟨k, by omega, q⟩
    · rintro ⟨p, p1, p2⟩
      by_cases q : p = k
      · subst q; exact Or.inr p2
      · exact Or.inl ⟨p, by omega, p2⟩
theorem orF_congr {f g : Nat → Nat} : ∀ {k : Nat}, (∀ p, p < k → f p = g p) → orF f k = orF g k := by
  intro k
  induction k with
  | zero => intro _; rfl
  | succ k ih =>
    intro e
    show orF f k ||| 2 ^ (f k) = orF g k ||| 2 ^ (g k)
    rw [ih (fun p hp => e p (by omega)), e k (by omega)]
theorem orF_lt {f : Nat → Nat} {k n : Nat} (hf : ∀ p, p < k → f p < n) : orF f k < 2 ^ n := by
  induction k with
  | zero => exact pow_pos n
  | succ k ih => exact Nat.or_lt_two_pow (ih (fun p hp => hf p (by omega))) (Nat.pow_lt_pow_right (by omega) (hf k (by omega)))
theorem rooms_set {h sl : RwQ} (hW : WF ρ) (hb : b < ρ 37) (hne : setOfQ ρ h b ≠ 0) : orF (fun p => bdN ρ b (setOfQ ρ h b) h sl p / 10) (prs ρ b) = setOfQ ρ h b := by
  obtain ⟨-, h2, h3⟩ := setOf_ok (sl := sl) hW hb hne
  have hlt := setOf_pow (h := h) (b := b) hW.1
  apply Nat.eq_of_testBit_eq
  intro r
  rw [Bool.eq_iff_iff, orF_bit]
  constructor
  · rintro ⟨p, p1, p2⟩
    have o2 := (bdN_ok (h2 p p1)).2.1
    rw [p2] at o2
    rw [Nat.testBit_eq_decide_div_mod_eq, decide_eq_true_iff]
    exact o2
  · intro q
    rw [Nat.testBit_eq_decide_div_mod_eq, decide_eq_true_iff] at q
    by_cases hr : r < ρ 4
    · exact h3 r hr q
    · rw [bit_hi hlt (by omega)] at q; omega
/-- the rooms of a booking, what it pays, what its walk costs -/
def rbO (ρ : RwQ) (π : PnQ) (b : Nat) : Nat := if π.2.1 b = 1 ∨ π.2.1 b = 2 then orF (fun p => (π.2.2 (12 * b + p) - 1) / 10) (prs ρ b) else 0
def pdT (ρ : RwQ) (π : PnQ) (b p : Nat) : Nat := rmv ρ ((π.2.2 (12 * b + p) - 1) / 10) 3 * bkv ρ b 1
def pdB (ρ : RwQ) (π : PnQ) (b : Nat) : Nat := if π.2.1 b = 1 ∨ π.2.1 b = 2 then disc ρ b (sumNQ (pdT ρ π b) (prs ρ b)) else 0
def wkB (ρ : RwQ) (π : PnQ) (b : Nat) : Nat := if π.2.1 b = 3 then ρ 1 * prs ρ b * bkv ρ b 1 else 0
theorem plc1_bec {x : Nat} (h : x ≠ b) : (plc1 ρ b π).2.1 x = π.2.1 x := by
  unfold plc1
  split
  · exact up_n h
  · exact up_n h
theorem plc1_sl (hW : WF ρ) (hb : b < ρ 37) {i : Nat} (hi : ∀ p, p < 12 → i ≠ 12 * b + p) : (plc1 ρ b π).2.2 i = π.2.2 i := by
  have hp := WF_prs hW hb
  unfold plc1
  by_cases q : setOfQ ρ π.1 b = 0
  · rw [if_pos q]
  · rw [if_neg q]
    obtain ⟨-, h2, -⟩ := setOf_ok (sl := π.2.2) hW hb q
    exact (gv_d (prs ρ b) h2).2 i (fun p hp => hi p (by omega))
theorem plc1_ne (hW : WF ρ) (hb : b < ρ 37) {x : Nat} (h : x ≠ b) (hx : x < ρ 37) : rbO ρ (plc1 ρ b π) x = rbO ρ π x ∧ pdB ρ (plc1 ρ b π) x = pdB ρ π x ∧ wkB ρ (plc1 ρ b π) x = wkB ρ π x := by
  have hp := WF_prs hW hx
  have es : ∀ p, p < prs ρ x → (plc1 ρ b π).2.2 (12 * x + p) = π.2.2 (12 * x + p) := fun p hp2 => plc1_sl hW hb (fun p' hp' => by omega)
  have eb := plc1_bec (ρ := ρ) (π := π) h
  have e1 : orF (fun p => ((plc1 ρ b π).2.2 (12 * x + p) - 1) / 10) (prs ρ x) = orF (fun p => (π.2.2 (12 * x + p) - 1) / 10) (prs ρ x) := orF_congr fun p hp2 => by rw [es p hp2]
  have e2 : sumNQ (pdT ρ (plc1 ρ b π) x) (prs ρ x) = sumNQ (pdT ρ π x) (prs ρ x) := sumN_congr fun p hp2 => by unfold pdT; rw [es p hp2]
  unfold rbO pdB wkB
  rw [eb, e1, e2]
  exact ⟨rfl, rfl, rfl⟩
theorem becOf_12 {h : RwQ} (hne : setOfQ ρ h b ≠ 0) : becOf ρ h b = 1 ∨ becOf ρ h b = 2 := by
  unfold becOf
  rw [if_neg hne]
  split
  · exact Or.inr rfl
  · exact Or.inl rfl
/-- the booking that is placed -/
theorem plc1_eq (hW : WF ρ) (hb : b < ρ 37) (hne : setOfQ ρ π.1 b ≠ 0) : plcd (plc1 ρ b π) b ∧ rbO ρ (plc1 ρ b π) b = setOfQ ρ π.1 b ∧ pdB ρ (plc1 ρ b π) b = disc ρ b (sumNQ (totT ρ b (setOfQ ρ π.1 b) π.1 π.2.2) (prs ρ b)) ∧ wkB ρ (plc1 ρ b π) b = 0 := by
  have hbe := becOf_12 hne
  obtain ⟨-, h2, -⟩ := setOf_ok (sl := π.2.2) hW hb hne
  have e1 : (plc1 ρ b π).2.1 b = becOf ρ π.1 b := by
    unfold plc1
    rw [if_neg hne]; exact up_s _ _ _
  have e2 : ∀ p, p < prs ρ b → (plc1 ρ b π).2.2 (12 * b + p) = bdN ρ b (setOfQ ρ π.1 b) π.1 π.2.2 p + 1 := by
    intro p hp
    unfold plc1
    rw [if_neg hne]
    exact (gv_d (prs ρ b) h2).1 p hp
  have e3 : orF (fun p => ((plc1 ρ b π).2.2 (12 * b + p) - 1) / 10) (prs ρ b) = setOfQ ρ π.1 b := by
    rw [← rooms_set (sl := π.2.2) hW hb hne]
    refine orF_congr fun p hp => ?_
    rw [e2 p hp] <;> rfl
  have e4 : sumNQ (pdT ρ (plc1 ρ b π) b) (prs ρ b) = sumNQ (totT ρ b (setOfQ ρ π.1 b) π.1 π.2.2) (prs ρ b) := sumN_congr fun p hp => by
    unfold pdT totT
    rw [e2 p hp, if_pos (h2 p hp)] <;> rfl
  unfold plcd rbO pdB wkB
  rw [e1, e3, e4, if_pos hbe, if_pos hbe, if_neg (by omega)]
  exact ⟨hbe, rfl, rfl, rfl⟩
theorem plc1_wk (hne : setOfQ ρ π.1 b = 0) : (plc1 ρ b π).2.1 b = 3 ∧ rbO ρ (plc1 ρ b π) b = 0 ∧ pdB ρ (plc1 ρ b π) b = 0 ∧ wkB ρ (plc1 ρ b π) b = ρ 1 * prs ρ b * bkv ρ b 1 := by
  have e1 : (plc1 ρ b π).2.1 b = 3 := by
    unfold plc1
    rw [if_pos hne]; exact up_s _ _ _
  unfold rbO pdB wkB
  rw [e1, if_neg (by omega), if_neg (by omega), if_pos rfl]
  exact ⟨rfl, rfl, rfl, rfl⟩
theorem PI_plc1 (hW : WF ρ) (hI : PI ρ π) (hb : b < ρ 37) (h0 : π.2.1 b = 0) : PI ρ (plc1 ρ b π) := by
  obtain ⟨A, Bq⟩ := hI
  have hpr := WF_prs hW hb
  have hnb : ¬ plcd π b := by unfold plcd; omega
  by_cases q : setOfQ ρ π.1 b = 0
  · have e : plc1 ρ b π = (π.1, upQ π.2.1 b 3, π.2.2) := by unfold plc1; rw [if_pos q]
    have ep : ∀ v, plcd (plc1 ρ b π) v ↔ plcd π v := by
      intro v
      by_cases hv : v = b
      · subst hv
        have := (plc1_wk (ρ := ρ) (π := π) q).1
        unfold plcd
        rw [this]
        unfold plcd at hnb
        omega
      · unfold plcd; rw [plc1_bec hv]
    refine ⟨fun x n hn hx => ?_, fun v hv hp p hpp => ?_⟩
    · rw [e] at hx ⊢
      obtain ⟨v, v1, v2, v3, v4, v5⟩ := A x n hn hx
      exact ⟨v, v1, v2, v3, by rw [← e]; exact (ep v).mpr v4, v5⟩
    · rw [ep v] at hp
      rw [e]
      exact Bq v hv hp p hpp
  · obtain ⟨-, h2, -⟩ := setOf_ok (sl := π.2.2) hW hb q
    have hpl := (plc1_eq (π := π) hW hb q).1
    have ep : ∀ v, v ≠ b → (plcd (plc1 ρ b π) v ↔ plcd π v) := by
      intro v hv
      unfold plcd; rw [plc1_bec hv]
    have e : plc1 ρ b π = ((gvS ρ b (setOfQ ρ π.1 b) π.1 π.2.2 (prs ρ b)).1, upQ π.2.1 b (becOf ρ π.1 b), (gvS ρ b (setOfQ ρ π.1 b) π.1 π.2.2 (prs ρ b)).2) := by unfold plc1; rw [if_neg q]
    have eh : (plc1 ρ b π).1 = (gvS ρ b (setOfQ ρ π.1 b) π.1 π.2.2 (prs ρ b)).1 := by rw [e]
    have es : (plc1 ρ b π).2.2 = (gvS ρ b (setOfQ ρ π.1 b) π.1 π.2.2 (prs ρ b)).2 := by rw [e]
    obtain ⟨d1, d2⟩ := gv_d (ρ := ρ) (b := b) (S := setOfQ ρ π.1 b) (h := π.1) (sl := π.2.2) (prs ρ b) h2
    refine ⟨fun x n hn hx => ?_, fun v hv hp p hpp => ?_⟩
    · rw [eh] at hx ⊢
      rw [es]
      rcases gv_b (ρ := ρ) (b := b) (S := setOfQ ρ π.1 b) (h := π.1) (sl := π.2.2) (prs ρ b) h2 x n hn with w | ⟨w1, w2, p, p1, p2⟩
      · rw [w] at hx ⊢
        obtain ⟨v, v1, v2, v3, v4, p, p1, p2⟩ := A x n hn hx
        have hvb : v ≠ b := fun w => hnb (by rw [← w]; exact v4)
        have hpv := WF_prs hW v2
        exact ⟨v, v1, v2, v3, (ep v hvb).mpr v4, p, p1, by rw [d2 _ (fun p' hp' => by omega)]; exact p2⟩
      · exact ⟨b, w1, hb, w2, hpl, p, p1, by rw [d1 p p1, p2]⟩
    · rw [eh, es]
      by_cases hvb : v = b
      · subst hvb
        obtain ⟨o1, -, -, -⟩ := bdN_ok (h2 p hpp)
        exact ⟨_, d1 p hpp, h2 p hpp, o1, fun n hn hs => gv_a (prs ρ v) h2 p hpp n hn hs⟩
      · obtain ⟨x, x1, x2, x3, x4⟩ := Bq v hv ((ep v hvb).mp hp) p hpp
        have hpv := WF_prs hW hv
        refine ⟨x, by rw [d2 _ (fun p' hp' => by omega)]; exact x1, x2, x3, fun n hn hs => ?_⟩
        rcases gv_b (ρ := ρ) (b := b) (S := setOfQ ρ π.1 b) (h := π.1) (sl := π.2.2) (prs ρ b) h2 x n hn with w | ⟨w1, w2, p', p1, p2⟩
        · rw [w]; exact x4 n hn hs
        · have := gv_c h2 p1 hn w2
          rw [p2, x4 n hn hs] at this
          omega
/-- bookings that became something have been looked at -/
theorem plB_seen {n : Nat} (h0 : ∀ b, π.2.1 b ≠ 0 → bkv ρ b 0 < n) : ∀ k b, (plB ρ n π k).2.1 b ≠ 0 → bkv ρ b 0 < n ∨ (bkv ρ b 0 = n ∧ b < k) := by
  intro k
  induction k with
  | zero => intro b hb; exact Or.inl (h0 b hb)
  | succ k ih =>
    intro b hb
    have eS : plB ρ n π (k + 1) = if isPl ρ k n = true then plc1 ρ k (plB ρ n π k) else plB ρ n π k := rfl
    by_cases q : isPl ρ k n = true
    · rw [eS, if_pos q] at hb
      by_cases hbk : b = k
      · subst hbk
        exact Or.inr ⟨(of_decide_eq_true q).2.2, by omega⟩
      · rw [plc1_bec hbk] at hb
        have := ih b hb
        omega
    · rw [eS, if_neg q] at hb
      have := ih b hb
      omega
theorem plN_seen (ρ : RwQ) : ∀ n b, (plN ρ n).2.1 b ≠ 0 → bkv ρ b 0 < n := by
  intro n
  induction n with
  | zero => intro b hb; exact absurd rfl hb
  | succ n ih =>
    intro b hb
    have := plB_seen (ρ := ρ) (n := n) (π := plN ρ n) ih (ρ 37) b hb
    omega
theorem plB_0 {n k : Nat} (h0 : ∀ b, π.2.1 b ≠ 0 → bkv ρ b 0 < n) (q : isPl ρ k n = true) : (plB ρ n π k).2.1 k = 0 := by
  rcases Nat.eq_zero_or_pos ((plB ρ n π k).2.1 k) with w | w
  · exact w
  · have := plB_seen h0 k k (by omega)
    have := (of_decide_eq_true q).2.2
    omega
theorem PI_plB {n : Nat} (hW : WF ρ) (hI : PI ρ π) (h0 : ∀ b, π.2.1 b ≠ 0 → bkv ρ b 0 < n) : ∀ k, k ≤ ρ 37 → PI ρ (plB ρ n π k) := by
  intro k
  induction k with
  | zero => intro _; exact hI
  | succ k ih =>
    intro hk
    have eS : plB ρ n π (k + 1) = if isPl ρ k n = true then plc1 ρ k (plB ρ n π k) else plB ρ n π k := rfl
    rw [eS]
    by_cases q : isPl ρ k n = true
    · rw [if_pos q]
      exact PI_plc1 hW (ih (by omega)) (by omega) (plB_0 h0 q)
    · rw [if_neg q]
      exact ih (by omega)
theorem PI_plN (hW : WF ρ) : ∀ n, PI ρ (plN ρ n) := by
  intro n
  induction n with
  | zero =>
    refine ⟨fun x n _ h => absurd rfl h, fun v _ hp => ?_⟩
    rcases hp with hp | hp
    · cases hp
    · cases hp
  | succ n ih => exact PI_plB hW ih (plN_seen ρ n) (ρ 37) (Nat.le_refl _)
theorem PI_plc (hW : WF ρ) : PI ρ (plc ρ) := PI_plN hW 30
end
