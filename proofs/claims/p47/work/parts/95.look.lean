/-! layer 2: looking a name upQ -/
def ixO (n k : Nat) : Int32 := if k < n then nI k else (-1 : Int32)
section
variable {σ μ : Mem} {j n : Nat} {c m : Int64}
def bkP (μ : Mem) (m : Int64) (b : Nat) : Bool := decide (m ≠ 0 ∧ rJ μ 12 0 b = m)
def rmP (μ : Mem) (m : Int64) (r : Nat) : Bool := decide (rJ μ 11 0 r = m)
theorem bookNamed_h (h22 : rI σ 22 j 0 = nI n) (hn : n ≤ 17) (hq : NMq c m) (hN : ∀ b, b < n → NMq (rJ σ 2 j b) (rJ μ 12 0 b)) : fX1_bookingNamed j c σ = some (ixO n (fstN (bkP μ m) n)) := by
  have hle := fstN_le (bkP μ m) n
  obtain ⟨k, hk⟩ : ∃ k, k = fstN (bkP μ m) n := ⟨_, rfl⟩
  have e : loop (stX1_bookingNamed_2 σ j c) 5000 (nI 0) = some (if k < n then .inr (nI k) else .inl ()) := by
    refine loop_st k (fun i => nI i) (by omega) rfl ?_ ?_
    · intro i hi
      have hp : bkP μ m i = false := fstN_no (by rw [← hk]; exact hi)
      unfold stX1_bookingNamed_2 jX1_bookingNamed_32
      simp only [l_1]
      rw [h22, if_neg (nI_ge (by omega) (by omega)), gd_inb (by omega) (by omega), nI_clamp (by omega), nI_add]
      by_cases z : lg_cmp c 0 = 0
      · rw [if_pos z]
      · rw [if_neg z, if_pos ?_]
        intro w
        have w1 := (lg_cmp_eq _ _).mp w
        have z1 : m ≠ 0 := fun y => z ((lg_cmp_eq _ _).mpr ((NM_0 hq).mpr y))
        exact absurd hp (by rw [show bkP μ m i = true from decide_eq_true ⟨z1, (NM_eq (hN i (by omega)) hq).mp w1⟩]; decide)
    · unfold stX1_bookingNamed_2 jX1_bookingNamed_32
      simp only [l_1]
      by_cases hkn : k < n
      · have hp : bkP μ m k = true := by rw [hk]; exact fstN_yes (by rw [← hk]; exact hkn)
        obtain ⟨z1, z2⟩ := of_decide_eq_true hp
        rw [h22, if_neg (nI_ge (by omega) (by omega)), if_neg (fun w => z1 ((NM_0 hq).mp ((lg_cmp_eq _ _).mp w))), gd_inb (by omega) (by omega), nI_clamp (by omega), if_neg (fun w => w ((lg_cmp_eq _ _).mpr ((NM_eq (hN k hkn) hq).mpr z2))), if_pos hkn]
      · rw [h22, if_pos (nI_le (by omega) (by omega)), if_neg hkn]
  unfold fX1_bookingNamed ixO
  simp only [l_0]
  rw [e, ← hk, Option.bind_some]
  by_cases hkn : k < n
  · rw [if_pos hkn, if_pos hkn] <;> rfl
  · rw [if_neg hkn, if_neg hkn] <;> rfl
theorem roomNamed_h (h20 : rI σ 20 j 0 = nI n) (hn : n ≤ 8) (hq : NMq c m) (hN : ∀ b, b < n → NMr (rJ σ 1 j b) (rJ μ 11 0 b)) : fX1_roomNamed j c σ = some (ixO n (fstN (rmP μ m) n)) := by
  have hle := fstN_le (rmP μ m) n
  obtain ⟨k, hk⟩ : ∃ k, k = fstN (rmP μ m) n := ⟨_, rfl⟩
  have e : loop (stX1_roomNamed_2 σ j c) 5000 (nI 0) = some (if k < n then .inr (nI k) else .inl ()) := by
    refine loop_st k (fun i => nI i) (by omega) rfl ?_ ?_
    · intro i hi
      have hp : rmP μ m i = false := fstN_no (by rw [← hk]; exact hi)
      unfold stX1_roomNamed_2
      simp only [l_1]
      rw [h20, if_neg (nI_ge (by omega) (by omega)), gd_inb (by omega) (by omega), nI_clamp (by omega), nI_add, if_pos ?_]
      intro w
      have w1 := (lg_cmp_eq _ _).mp w
      exact absurd hp (by rw [show rmP μ m i = true from decide_eq_true ((NM_eq (NMr_q (hN i (by omega))) hq).mp w1)]; decide)
    · unfold stX1_roomNamed_2
      simp only [l_1]
      by_cases hkn : k < n
      · have hp : rmP μ m k = true := by rw [hk]; exact fstN_yes (by rw [← hk]; exact hkn)
        have z2 := of_decide_eq_true hp
        rw [h20, if_neg (nI_ge (by omega) (by omega)), gd_inb (by omega) (by omega), nI_clamp (by omega), if_neg (fun w => w ((lg_cmp_eq _ _).mpr ((NM_eq (NMr_q (hN k hkn)) hq).mpr z2))), if_pos hkn]
      · rw [h20, if_pos (nI_le (by omega) (by omega)), if_neg hkn]
  unfold fX1_roomNamed ixO
  simp only [l_0]
  rw [e, ← hk, Option.bind_some]
  by_cases hkn : k < n
  · rw [if_pos hkn, if_pos hkn] <;> rfl
  · rw [if_neg hkn, if_neg hkn] <;> rfl
end
