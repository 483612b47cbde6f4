/-! layer 2: reading on both sides -/
def nxT (N : Nat) (B : Nat → Int32) (s : Nat) : Nat := skp N B (tkE N B s)
def FA (σ σ2 : Mem) : Prop := FrG (fun k _ _ => 8 ≤ k ∧ k ≤ 11) (fun k _ _ => k = 0) σ σ2
def FY (μ μ2 : Mem) : Prop := FrG (fun k _ _ => 71 ≤ k ∧ k ≤ 75) (fun k _ _ => k = 10) μ μ2
def RdC (σ : Mem) (N : Nat) (B : Nat → Int32) (s : Nat) : Prop := TxC σ N B ∧ s ≤ N ∧ TkC σ N B s
def Bad (μ : Mem) (w : Nat) : Prop := w ≤ 700 ∧ rI μ 75 0 0 = nI w
theorem tkK_le (N : Nat) (B : Nat → Int32) (s : Nat) : tkK N B s ≤ 4 := by
  unfold tkK
  by_cases q : s < N
  · rw [if_pos q]
    by_cases ql : ltr (B s) = true
    · rw [if_pos ql]
      by_cases z : 8 < lts N B s
      · rw [if_pos z]; omega
      · rw [if_neg z]; omega
    · rw [if_neg ql]
      by_cases qd : dgt (B s) = true
      · rw [if_pos qd]
        by_cases z : 3 < dgs N B s
        · rw [if_pos z]; omega
        · rw [if_neg z]; omega
      · rw [if_neg qd]
        by_cases z : B s = nI 59
        · rw [if_pos z]; omega
        · rw [if_neg z]; omega
  · rw [if_neg q]; omega
def okN (N : Nat) (B : Nat → Int32) (s lo hi : Nat) : Bool := decide (tkK N B s = 2 ∧ nI lo ≤ vlN B s (dgs N B s) ∧ vlN B s (dgs N B s) ≤ nI hi)
def vlT (N : Nat) (B : Nat → Int32) (s : Nat) : Nat := (vlN B s (dgs N B s)).toInt.toNat
theorem nI_rng {x : Int32} {lo hi : Nat} (hh : hi < 2 ^ 31) (hl : lo < 2 ^ 31) (h1 : nI lo ≤ x) (h2 : x ≤ nI hi) : x = nI x.toInt.toNat ∧ lo ≤ x.toInt.toNat ∧ x.toInt.toNat ≤ hi := by
  rw [Int32.le_iff_toInt_le, nI_toInt hl] at h1
  rw [Int32.le_iff_toInt_le, nI_toInt hh] at h2
  refine ⟨?_, by omega, by omega⟩
  apply Int32.toInt_inj.mp
  rw [nI_toInt (by omega)]; omega
theorem okN_v {N : Nat} {B : Nat → Int32} {s lo hi : Nat} (h : okN N B s lo hi = true) (hh : hi < 2 ^ 31) (hl : lo < 2 ^ 31) : vlN B s (dgs N B s) = nI (vlT N B s) ∧ lo ≤ vlT N B s ∧ vlT N B s ≤ hi := by
  obtain ⟨h1, h2, h3⟩ := of_decide_eq_true h
  exact nI_rng hh hl h2 h3
section
variable {σ σ2 μ μ2 : Mem} {N s w : Nat} {B : Nat → Int32}
theorem nxT_le (hs : s ≤ N) : s ≤ nxT N B s ∧ nxT N B s ≤ N := by
  have h1 := tkE_le (B := B) hs
  have h2 := skp_le (B := B) h1.2
  unfold nxT
  omega
theorem FA_rfl (σ : Mem) : FA σ σ := FrG_rfl σ
theorem FY_rfl (σ : Mem) : FY σ σ := FrG_rfl σ
theorem FA_tr {a b c : Mem} (h1 : FA a b) (h2 : FA b c) : FA a c := FrG_tr h1 h2
theorem FY_tr {a b c : Mem} (h1 : FY a b) (h2 : FY b c) : FY a c := FrG_tr h1 h2
theorem RdC_fr {K KJ : Nat → Nat → Nat → Prop} (R : RdC σ N B s) (F : FrG K KJ σ σ2) (hk : ∀ k j r, K k j r → k < 6 ∨ 11 < k) (hj : ∀ k j r, KJ k j r → k ≠ 0) : RdC σ2 N B s := by
  obtain ⟨⟨h1, h2, h3⟩, h4, ⟨t1, t2, t3, t4, t5⟩⟩ := R
  have e : ∀ k j r, 6 ≤ k → k ≤ 11 → rI σ2 k j r = rI σ k j r := fun k j r a b => F.1 k j r (fun z => by have := hk k j r z; omega)
  refine ⟨⟨h1, by rw [e 7 0 0 (by omega) (by omega)]; exact h2, fun i hi => by rw [e 6 0 i (by omega) (by omega)]; exact h3 i hi⟩, h4, ?_, ?_, ?_, fun z => ?_, fun z => ?_⟩
  · rw [e 9 0 0 (by omega) (by omega)]; exact t1
  · rw [e 8 0 0 (by omega) (by omega)]; exact t2
  · rw [e 10 0 0 (by omega) (by omega)]; exact t3
  · rw [F.2.1 0 0 0 (fun z => hj 0 0 0 z rfl)]; exact t4 z
  · rw [e 11 0 0 (by omega) (by omega)]; exact t5 z
theorem adv_h (R : RdC σ N B s) : OkQ (fX2_advance σ) (fun σ2 => RdC σ2 N B (nxT N B s) ∧ FA σ σ2) := by
  obtain ⟨T, h4, t1, t2, t3, t4, t5⟩ := R
  obtain ⟨σ2, a1, a2, a3⟩ := advance_h T (tkE_le h4).2 t2
  refine ⟨σ2, a1, ⟨⟨T.1, ?_, fun i hi => ?_⟩, (nxT_le h4).2, a2⟩, a3⟩
  · rw [a3.1 7 0 0 (by omega)]; exact T.2.1
  · rw [a3.1 6 0 i (by omega)]; exact T.2.2 i hi
theorem num_h (R : RdC σ N B s) (lo hi : Nat) : ∃ σ2, fX2_readNumber (nI lo) (nI hi) σ = some (nI (b1 (okN N B (nxT N B s) lo hi)), σ2) ∧ RdC σ2 N B (nxT N B s) ∧ FA σ σ2 ∧ (lo < 2 ^ 31 → hi < 2 ^ 31 → okN N B (nxT N B s) lo hi = true → rI σ2 11 0 0 = nI (vlT N B (nxT N B s)) ∧ lo ≤ vlT N B (nxT N B s) ∧ vlT N B (nxT N B s) ≤ hi) := by
  obtain ⟨σ2, a1, a2, a3⟩ := adv_h R
  obtain ⟨-, -, t1, t2, t3, t4, t5⟩ := id a2
  have h4 := tkK_le N B (nxT N B s)
  refine ⟨σ2, ?_, a2, a3, fun h1 h2 h3 => ?_⟩
  · unfold fX2_readNumber jX2_readNumber_32
    simp only [l_0, l_1, l_2]
    rw [a1, Option.bind_some, t3]
    by_cases z : tkK N B (nxT N B s) = 2
    · rw [if_neg (fun y => y (by rw [z])), t5 z]
      by_cases z1 : vlN B (nxT N B s) (dgs N B (nxT N B s)) < nI lo
      · rw [if_pos z1, show okN N B (nxT N B s) lo hi = false from decide_eq_false (fun y => Int32.not_lt.mpr y.2.1 z1)] <;> rfl
      · rw [if_neg z1]
        by_cases z2 : nI hi < vlN B (nxT N B s) (dgs N B (nxT N B s))
        · rw [if_pos z2, show okN N B (nxT N B s) lo hi = false from decide_eq_false (fun y => Int32.not_lt.mpr y.2.2 z2)] <;> rfl
        · rw [if_neg z2, show okN N B (nxT N B s) lo hi = true from decide_eq_true ⟨z, Int32.not_lt.mp z1, Int32.not_lt.mp z2⟩] <;> rfl
    · rw [if_pos (nI_ne (by omega) (by omega) z), show okN N B (nxT N B s) lo hi = false from decide_eq_false (fun y => z y.1)] <;> rfl
  · obtain ⟨v1, v2⟩ := okN_v h3 h2 h1
    exact ⟨by rw [t5 (of_decide_eq_true h3).1]; exact v1, v2⟩
theorem end_h (R : RdC σ N B s) : ∃ σ2, fX2_readEnd σ = some (nI (b1 (decide (tkK N B (nxT N B s) = 3))), σ2) ∧ RdC σ2 N B (nxT N B s) ∧ FA σ σ2 := by
  obtain ⟨σ2, a1, a2, a3⟩ := adv_h R
  obtain ⟨-, -, t1, t2, t3, t4, t5⟩ := id a2
  have h4 := tkK_le N B (nxT N B s)
  refine ⟨σ2, ?_, a2, a3⟩
  unfold fX2_readEnd
  simp only [l_0, l_1, l_3]
  rw [a1, Option.bind_some, t3]
  by_cases z : tkK N B (nxT N B s) = 3
  · rw [if_neg (fun y => y (by rw [z])), decide_eq_true z] <;> rfl
  · rw [if_pos (nI_ne (by omega) (by omega) z), decide_eq_false z] <;> rfl
end
