/-! layer 2: the reference over its row: what reads it -/
theorem b1_t : b1 true = 1 := rfl
theorem b1_f : b1 false = 0 := rfl
theorem b1_le (p : Bool) : b1 p ≤ 1 := by cases p <;> decide
theorem b1_z {p : Bool} : nI (b1 p) = nI 0 ↔ p = false := by cases p <;> decide
theorem b1_o {p : Bool} : nI (b1 p) = nI 1 ↔ p = true := by cases p <;> decide
theorem gd_b1 {α : Type} {p : Bool} {k : Option α} : gd (nI (b1 p) = nI 0 ∨ nI (b1 p) = nI 1) k = k := gd_pos (by cases p <;> decide)
theorem gd_01 {α : Type} {n : Nat} {k : Option α} (h : n ≤ 1) : gd (nI n = nI 0 ∨ nI n = nI 1) k = k := gd_pos (by
  have : n = 0 ∨ n = 1 := by omega
  rcases this with rfl | rfl <;> decide)
theorem gd_inb {α : Type} {i n : Nat} {k : Option α} (h : i < n) (hn : n < 2 ^ 31) : gd (inb (nI i) n) k = k := gd_pos (inb_n h hn)
/-- what changed lies in K, and is an int -/
def FrQ (K : Nat → Nat → Nat → Prop) (σ σ2 : Mem) : Prop := (∀ k j r, ¬ K k j r → rI σ2 k j r = rI σ k j r) ∧ σ2.2 = σ.2
theorem Fr_rfl {K : Nat → Nat → Nat → Prop} (σ : Mem) : FrQ K σ σ := ⟨fun _ _ _ _ => rfl, rfl⟩
theorem Fr_tr {K : Nat → Nat → Nat → Prop} {a b c : Mem} (h1 : FrQ K a b) (h2 : FrQ K b c) : FrQ K a c := ⟨fun k j r h => (h2.1 k j r h).trans (h1.1 k j r h), h2.2.trans h1.2⟩
theorem Fr_mono {K K2 : Nat → Nat → Nat → Prop} {a b : Mem} (h : FrQ K a b) (hk : ∀ k j r, K k j r → K2 k j r) : FrQ K2 a b := ⟨fun k j r q => h.1 k j r (fun w => q (hk k j r w)), h.2⟩
theorem Fr_wI {K : Nat → Nat → Nat → Prop} {σ : Mem} {k j r : Nat} {v : Int32} (h : K k j r) : FrQ K σ (wI σ k j r v) := ⟨fun k2 j2 r2 q => by
  rw [rI_wI, if_neg]
  rintro ⟨rfl, rfl, rfl⟩
  exact q h, rfl⟩
theorem Fr_J {K : Nat → Nat → Nat → Prop} {a b : Mem} (h : FrQ K a b) (k j r : Nat) : rJ b k j r = rJ a k j r := by
  show b.2.1 k j r = a.2.1 k j r
  rw [h.2]
theorem Fr_D {K : Nat → Nat → Nat → Prop} {a b : Mem} (h : FrQ K a b) (k j r : Nat) : rD b k j r = rD a k j r := by
  show b.2.2.1 k j r = a.2.2.1 k j r
  rw [h.2]
theorem Fr_P {K : Nat → Nat → Nat → Prop} {a b : Mem} (h : FrQ K a b) (k : Nat) : rP b k = rP a k := by
  show b.2.2.2 k = a.2.2.2 k
  rw [h.2]
/-- the cells of row s -/
def KRQ (s : Nat) (k j r : Nat) : Prop := k = 61 ∧ j = 0 ∧ 208 * s ≤ r ∧ r < 208 * s + 208
section
variable {μ : Mem} {s : Nat} {ρ : RwQ}
end
theorem nI_pred_toInt {n : Nat} (hn : n < 2 ^ 30) : (nI n - nI 1).toInt = (n : Int) - 1 := pk_sub_toInt hn (by omega)
section
variable {μ : Mem} {s : Nat} {ρ : RwQ}
end
