/-! layer 2: names in the formatted text -/
theorem nm_8 (x k : Nat) (hx : x < 2 ^ 64) {s : Int32} (hu : ∀ y : BitVec 64, (UInt64.ofBitVec y >>> (s.toInt64.toUInt64 &&& Int64.toUInt64 63)).toBitVec = y >>> k) : (((Int64.ofNat x).toUInt64 >>> (s.toInt64.toUInt64 &&& Int64.toUInt64 63)).toInt64).toInt32 &&& (255 : Int32) = Int32.ofNat (x / 2 ^ k % 256) := by
  apply Int32.toBitVec_inj.mp
  show BitVec.signExtend 32 (UInt64.ofBitVec (BitVec.ofNat 64 x) >>> (s.toInt64.toUInt64 &&& Int64.toUInt64 63)).toBitVec &&& 255#32 = BitVec.ofNat 32 (x / 2 ^ k % 256)
  rw [hu]
  apply BitVec.eq_of_getLsbD_eq
  intro i hi
  rw [BitVec.getLsbD_and, BitVec.getLsbD_signExtend, BitVec.getLsbD_ushiftRight, BitVec.getLsbD_ofNat, BitVec.getLsbD_ofNat, BitVec.getLsbD_ofNat]
  rw [show (256 : Nat) = 2 ^ 8 from rfl, Nat.testBit_mod_two_pow, Nat.testBit_div_two_pow, show (255 : Nat) = 2 ^ 8 - 1 from rfl, Nat.testBit_two_pow_sub_one]
  by_cases h8 : i < 8
  · have h1 : i < 64 := by omega
    by_cases h2 : k + i < 64
    · simp [h8, h1, h2, hi, Nat.add_comm]
    · have : x.testBit (i + k) = false := Nat.testBit_lt_two_pow (Nat.lt_of_lt_of_le hx (Nat.pow_le_pow_right (by omega) (by omega)))
      simp [h8, h1, h2, hi, this]
  · simp [h8]
theorem nm_5 (x k : Nat) (hx : x < 2 ^ 63) {s : Int32} (hu : ∀ y : Int64, (y >>> (s.toInt64 &&& 63)).toBitVec = y.toBitVec.sshiftRight k) (hk : k < 58) : ((Int64.ofNat x >>> (s.toInt64 &&& 63)) &&& (31 : Int64)).toInt32 = Int32.ofNat (x / 2 ^ k % 32) := by
  apply Int32.toBitVec_inj.mp
  show BitVec.signExtend 32 ((Int64.ofNat x >>> (s.toInt64 &&& 63)).toBitVec &&& 31#64) = BitVec.ofNat 32 (x / 2 ^ k % 32)
  rw [hu]
  apply BitVec.eq_of_getLsbD_eq
  intro i hi
  show (BitVec.signExtend 32 ((BitVec.ofNat 64 x).sshiftRight k &&& 31#64)).getLsbD i = _
  rw [BitVec.getLsbD_signExtend, BitVec.getLsbD_and, BitVec.getLsbD_sshiftRight, BitVec.getLsbD_ofNat, BitVec.getLsbD_ofNat, BitVec.getLsbD_ofNat]
  rw [show (32 : Nat) = 2 ^ 5 from rfl, Nat.testBit_mod_two_pow, Nat.testBit_div_two_pow, show (31 : Nat) = 2 ^ 5 - 1 from rfl, Nat.testBit_two_pow_sub_one]
  have h1 : i < 64 := by omega
  by_cases h5 : i < 5
  · have h2 : k + i < 64 := by omega
    simp [h5, h1, h2, hi, Nat.add_comm]
  · simp [h5, h1]
theorem n8_snoc (ls : List Nat) (l : Nat) : n8 (ls ++ [l]) = n8 ls * 256 + (96 + l) := by
  unfold n8
  rw [List.foldl_append] <;> rfl
theorem n5_snoc (ls : List Nat) (l : Nat) : n5Q (ls ++ [l]) = n5Q ls * 32 + l := by
  unfold n5Q
  rw [List.foldl_append] <;> rfl
theorem n8_lt : ∀ (r : List Nat), (∀ l, l ∈ r → 1 ≤ l ∧ l ≤ 26) → n8 r.reverse < 256 ^ r.length := by
  intro r
  induction r with
  | nil => intro _; exact Nat.zero_lt_one
  | cons l r ih =>
    intro h
    have h1 := ih (fun x hx => h x (List.mem_cons_of_mem _ hx))
    have h2 := h l List.mem_cons_self
    rw [List.reverse_cons, n8_snoc, List.length_cons, Nat.pow_succ]
    omega
theorem n5_lt : ∀ (r : List Nat), (∀ l, l ∈ r → 1 ≤ l ∧ l ≤ 26) → n5Q r.reverse < 32 ^ r.length := by
  intro r
  induction r with
  | nil => intro _; exact Nat.zero_lt_one
  | cons l r ih =>
    intro h
    have h1 := ih (fun x hx => h x (List.mem_cons_of_mem _ hx))
    have h2 := h l List.mem_cons_self
    rw [List.reverse_cons, n5_snoc, List.length_cons, Nat.pow_succ]
    omega
theorem gd_le : ∀ (r : List Nat), (∀ l, l ∈ r → 1 ≤ l ∧ l ≤ 26) → ∀ j, r.getD j 0 ≤ 26 := by
  intro r
  induction r with
  | nil => intro _ j; simp
  | cons l r ih =>
    intro h j
    cases j with
    | zero => exact (h l List.mem_cons_self).2
    | succ j => exact ih (fun x hx => h x (List.mem_cons_of_mem _ hx)) j
theorem dig8 : ∀ (r : List Nat), (∀ l, l ∈ r → 1 ≤ l ∧ l ≤ 26) → ∀ j, n8 r.reverse / 256 ^ j % 256 = if r.getD j 0 = 0 then 0 else 96 + r.getD j 0 := by
  intro r
  induction r with
  | nil =>
    intro _ j
    show 0 / 256 ^ j % 256 = _
    simp
  | cons l r ih =>
    intro h j
    have h2 := h l List.mem_cons_self
    rw [List.reverse_cons, n8_snoc]
    cases j with
    | zero =>
      show (n8 r.reverse * 256 + (96 + l)) / 1 % 256 = if l = 0 then 0 else 96 + l
      rw [if_neg (by omega)]; omega
    | succ j =>
      show _ = if r.getD j 0 = 0 then 0 else 96 + r.getD j 0
      rw [← ih (fun x hx => h x (List.mem_cons_of_mem _ hx)) j, Nat.pow_succ, Nat.mul_comm (256 ^ j) 256, ← Nat.div_div_eq_div_mul, show (n8 r.reverse * 256 + (96 + l)) / 256 = n8 r.reverse by omega]
theorem dig5 : ∀ (r : List Nat), (∀ l, l ∈ r → 1 ≤ l ∧ l ≤ 26) → ∀ j, n5Q r.reverse / 32 ^ j % 32 = r.getD j 0 := by
  intro r
  induction r with
  | nil =>
    intro _ j
    show 0 / 32 ^ j % 32 = _
    simp
  | cons l r ih =>
    intro h j
    have h2 := h l List.mem_cons_self
    rw [List.reverse_cons, n5_snoc]
    cases j with
    | zero =>
      show (n5Q r.reverse * 32 + l) / 1 % 32 = l
      omega
    | succ j =>
      show _ = r.getD j 0
      rw [← ih (fun x hx => h x (List.mem_cons_of_mem _ hx)) j, Nat.pow_succ, Nat.mul_comm (32 ^ j) 32, ← Nat.div_div_eq_div_mul, show (n5Q r.reverse * 32 + l) / 32 = n5Q r.reverse by omega]
def ixA (j : Nat) : Int32 := nI (8 * j) + (-8)
def ixC (j : Nat) : Int32 := nI (5 * j) + (-5)
theorem ixA_ok : ∀ j, j < 8 → ¬ ixA (j + 1) < 0 ∧ ixA (j + 1) + (-8) = ixA j ∧ ¬ ixC (j + 1) < 0 ∧ ixC (j + 1) + (-5) = ixC j := by decide +kernel
theorem ixA_sh {j : Nat} (hj : j < 8) : (∀ y : BitVec 64, (UInt64.ofBitVec y >>> ((ixA (j + 1)).toInt64.toUInt64 &&& Int64.toUInt64 63)).toBitVec = y >>> (8 * j)) ∧ (∀ y : Int64, (y >>> ((ixC (j + 1)).toInt64 &&& 63)).toBitVec = y.toBitVec.sshiftRight (5 * j)) := by
  have : j = 0 ∨ j = 1 ∨ j = 2 ∨ j = 3 ∨ j = 4 ∨ j = 5 ∨ j = 6 ∨ j = 7 := by omega
  rcases this with rfl | rfl | rfl | rfl | rfl | rfl | rfl | rfl <;> exact ⟨fun _ => rfl, fun _ => rfl⟩
theorem name_l {r : List Nat} (h : ∀ l, l ∈ r → 1 ≤ l ∧ l ≤ 26) (hl : r.length ≤ 8) : ∀ j, j ≤ 8 → ∀ (σ μ : Mem) (n f : Nat), n + j ≤ 160 → I7n n σ μ → ∃ N σ2 μ2, N ≤ n + j ∧ loop (stX5_putName_3 (lN (n8 r.reverse))) (f + 1 + j) (ixA j, σ) = some σ2 ∧ loop (stX6_sayName_3 (lN (n5Q r.reverse))) (f + 1 + j) (ixC j, μ) = some μ2 ∧ I7n N σ2 μ2 ∧ F7 σ σ2 μ μ2 := by
  have b8 : n8 r.reverse < 2 ^ 64 := Nat.lt_of_lt_of_le (n8_lt r h) (show 256 ^ r.length ≤ 2 ^ 64 from Nat.pow_le_pow_right (n := 256) (by omega) hl)
  have b5 : n5Q r.reverse < 2 ^ 63 := Nat.lt_of_lt_of_le (n5_lt r h) (Nat.le_trans (show 32 ^ r.length ≤ 32 ^ 8 from Nat.pow_le_pow_right (by omega) hl) (by decide))
  intro j
  induction j with
  | zero =>
    intro _ σ μ n f hn hI
    refine ⟨n, σ, μ, by omega, ?_, ?_, hI, F7_rfl σ μ⟩
    · exact loop_out (n := f) rfl
    · exact loop_out (n := f) rfl
  | succ j ih =>
    intro hj σ μ n f hn hI
    obtain ⟨x1, x2, x3, x4⟩ := ixA_ok j (by omega)
    obtain ⟨y1, y2⟩ := ixA_sh (j := j) (by omega)
    obtain ⟨d, hd⟩ : ∃ d, d = r.getD j 0 := ⟨_, rfl⟩
    have hd26 : d ≤ 26 := by rw [hd]; exact gd_le r h j
    have e8 : ((((lN (n8 r.reverse)).toUInt64 >>> ((ixA (j + 1)).toInt64.toUInt64 &&& Int64.toUInt64 63)).toInt64).toInt32) &&& (255 : Int32) = nI (if d = 0 then 0 else 96 + d) := by
      have := nm_8 (n8 r.reverse) (8 * j) b8 y1
      rw [Nat.pow_mul, show (2 : Nat) ^ 8 = 256 from rfl, dig8 r h j, ← hd] at this
      exact this
    have e5 : (((lN (n5Q r.reverse)) >>> ((ixC (j + 1)).toInt64 &&& 63)) &&& (31 : Int64)).toInt32 = nI d := by
      have := nm_5 (n5Q r.reverse) (5 * j) b5 y2 (by omega)
      rw [Nat.pow_mul, show (2 : Nat) ^ 5 = 32 from rfl, dig5 r h j, ← hd] at this
      exact this
    by_cases hz : d = 0
    · rw [if_pos hz] at e8
      have s8 : stX5_putName_3 (lN (n8 r.reverse)) (ixA (j + 1), σ) = some (.inl (ixA j, σ)) := by
        unfold stX5_putName_3 jX5_putName_29
        try dsimp only
        rw [if_neg x1, e8, if_pos (show nI 0 = 0 from rfl), x2]
      have s5 : stX6_sayName_3 (lN (n5Q r.reverse)) (ixC (j + 1), μ) = some (.inl (ixC j, μ)) := by
        unfold stX6_sayName_3 jX6_sayName_31
        try dsimp only
        rw [if_neg x3, e5, hz, if_pos (show nI 0 ≤ 0 from by decide), x4]
      obtain ⟨N, σ2, μ2, g1, g2, g3, g4, g5⟩ := ih (by omega) σ μ n f (by omega) hI
      exact ⟨N, σ2, μ2, by omega, (loop_in (n := f + 1 + j) s8).trans g2, (loop_in (n := f + 1 + j) s5).trans g3, g4, g5⟩
    · rw [if_neg hz] at e8
      obtain ⟨σ1, μ1, a1, a2, a3, a4⟩ := say_7 (c := 96 + d) (by omega) (by omega) hI
      have s8 : stX5_putName_3 (lN (n8 r.reverse)) (ixA (j + 1), σ) = some (.inl (ixA j, σ1)) := by
        unfold stX5_putName_3 jX5_putName_29
        try dsimp only
        rw [if_neg x1, e8, if_neg (show ¬ nI (96 + d) = 0 from nI_ne (b := 0) (by omega) (by omega) (by omega)), ch_mod (by omega), a1, Option.bind_some, x2]
      have s5 : stX6_sayName_3 (lN (n5Q r.reverse)) (ixC (j + 1), μ) = some (.inl (ixC j, μ1)) := by
        unfold stX6_sayName_3 jX6_sayName_31
        try dsimp only
        rw [if_neg x3, e5, if_neg (show ¬ nI d ≤ 0 from nI_ge (b := d) (a := 0) (by omega) (by omega)), show (96 : Int32) = nI 96 from l_96, nI_add, Nat.add_comm d 96, a2, Option.bind_some, x4]
      obtain ⟨N, σ2, μ2, g1, g2, g3, g4, g5⟩ := ih (by omega) σ1 μ1 (n + 1) f (by omega) a3
      exact ⟨N, σ2, μ2, by omega, (loop_in (n := f + 1 + j) s8).trans g2, (loop_in (n := f + 1 + j) s5).trans g3, g4, F7_tr a4 g5⟩
theorem name_7 {σ μ : Mem} {n : Nat} {c m : Int64} (h : NMq c m) (hn : n + 8 ≤ 160) (hI : I7n n σ μ) : ∃ N σ2 μ2, N ≤ n + 8 ∧ fX5_putName c σ = some σ2 ∧ fX6_sayName m μ = some μ2 ∧ I7n N σ2 μ2 ∧ F7 σ σ2 μ μ2 := by
  obtain ⟨ls, h1, h2, rfl, rfl⟩ := h
  obtain ⟨N, σ2, μ2, g1, g2, g3, g4, g5⟩ := name_l (r := ls.reverse) (fun l hl => h2 l (List.mem_reverse.mp hl)) (by rw [List.length_reverse]; exact h1) 8 (Nat.le_refl _) σ μ n 4991 hn hI
  rw [List.reverse_reverse] at g2 g3
  refine ⟨N, σ2, μ2, g1, ?_, ?_, g4, g5⟩
  · unfold fX5_putName
    rw [show (56 : Int32) = ixA 8 from by decide +kernel, show (5000 : Nat) = 4991 + 1 + 8 from rfl, g2, Option.bind_some]
  · unfold fX6_sayName
    rw [show (35 : Int32) = ixC 8 from by decide +kernel, show (5000 : Nat) = 4991 + 1 + 8 from rfl, g3, Option.bind_some]
