/-! layer 2: the reference's placing: sets, beds given out, all placed -/
theorem nI_or {a b : Nat} (ha : a < 2 ^ 32) (hb : b < 2 ^ 32) : nI a ||| nI b = nI (a ||| b) := by
  apply Int32.toBitVec_inj.mp
  apply BitVec.eq_of_toNat_eq
  rw [Int32.toBitVec_or, BitVec.toNat_or, pk_tn ha, pk_tn hb, pk_tn (Nat.or_lt_two_pow ha hb)]
theorem nI_andB {a b : Nat} (ha : a < 2 ^ 32) (hb : b < 2 ^ 32) : nI a &&& nI b = nI (a &&& b) := by
  apply Int32.toBitVec_inj.mp
  apply BitVec.eq_of_toNat_eq
  rw [Int32.toBitVec_and, BitVec.toNat_and, pk_tn ha, pk_tn hb, pk_tn (Nat.lt_of_le_of_lt Nat.and_le_left ha)]
/-- sums of different powers, and their bitsQ -/
def bitsT (p : Nat → Bool) (k : Nat) : Nat := if p k = true then 2 ^ k else 0
def bitsQ (p : Nat → Bool) (n : Nat) : Nat := sumNQ (bitsT p) n
theorem bit_hi {S n r : Nat} (hS : S < 2 ^ n) (hr : n ≤ r) : S / 2 ^ r % 2 = 0 := by
  rw [Nat.div_eq_of_lt (Nat.lt_of_lt_of_le hS (Nat.pow_le_pow_right (by omega) hr))]
section
variable {μ : Mem} {s : Nat} {ρ : RwQ} {π : PnQ}
theorem pc_le {S : Nat} : pc S ≤ 8 := by
  have := sumN_le (f := fun k => S / 2 ^ k % 2) (c := 1) (n := 8) (fun k _ => by omega)
  unfold pc
  omega
end
