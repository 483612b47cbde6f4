/-! layer 2: the reference's placing: sets, beds given out, all placed -/
theorem nI_or {a b : Nat} (ha : a < 2 ^ 32) (hb : b < 2 ^ 32) : nI a ||| nI b = nI (a ||| b) := by
  apply Int32.toBitVec_inj.mp
  apply BitVec.eq_of_toNat_eq
  rw [Int32.toBitVec_or, BitVec.toNat_or, pk_tn ha, pk_tn hb, pk_tn (Nat.or_lt_two_pow ha hb)]
theorem nI_andB {a b : Nat} (ha : a < 2 ^ 32) (hb : b < 2 ^ 32) : nI a &&& nI b = nI (a &&& b) := by
  apply Int32.toBitVec_inj.mp
  apply BitVec.eq_of_toNat_eq
  rw [Int32.toBitVec_and, BitVec.toNat_and, pk_tn ha, pk_tn hb, pk_tn (Nat.lt_of_le_of_lt Nat.and_le_left ha)]
theorem or_pow {a k : Nat} (h : a < 2 ^ k) : a ||| 2 ^ k = a + 2 ^ k := by
  have := Nat.two_pow_add_eq_or_of_lt h 1
  rw [Nat.mul_one] at this
  rw [Nat.or_comm, ← this, Nat.add_comm]
/-- sums of different powers, and their bitsQ -/
def bitsT (p : Nat → Bool) (k : Nat) : Nat := if p k = true then 2 ^ k else 0
def bitsQ (p : Nat → Bool) (n : Nat) : Nat := sumNQ (bitsT p) n
theorem bits_lt (p : Nat → Bool) : ∀ n, bitsQ p n < 2 ^ n := by
  intro n
  induction n with
  | zero => exact Nat.one_pos
  | succ n ih =>
    show bitsQ p n + bitsT p n < 2 ^ (n + 1)
    have h1 : bitsT p n ≤ 2 ^ n := by
      unfold bitsT
      split <;> omega
    rw [Nat.pow_succ]
    omega
theorem bits_bit (p : Nat → Bool) : ∀ n k, k < n → bitsQ p n / 2 ^ k % 2 = b1 (p k) := by
  intro n
  induction n with
  | zero => intro k hk; omega
  | succ n ih =>
    intro k hk
    show (bitsQ p n + bitsT p n) / 2 ^ k % 2 = b1 (p k)
    have hlt := bits_lt p n
    by_cases hkn : k = n
    · subst hkn
      unfold bitsT
      cases hp : p k
      · rw [if_neg (by decide), Nat.add_zero, Nat.div_eq_of_lt hlt] <;> rfl
      · rw [if_pos rfl, Nat.add_div_right _ (pow_pos k), Nat.div_eq_of_lt hlt] <;> rfl
    · have hkn2 : k < n := by omega
      rw [← ih k hkn2]
      unfold bitsT
      split
      · rw [show n = k + 1 + (n - k - 1) by omega, Nat.pow_add, Nat.pow_succ, Nat.mul_assoc, Nat.add_mul_div_left _ _ (pow_pos k)]
        omega
      · rw [Nat.add_zero]
theorem sub_dec : ∀ a, a < 256 → ∀ b, b < 256 → (nI a &&& (nI b ^^^ -nI 1) = nI 0 ↔ ∀ r, r < 8 → a / 2 ^ r % 2 = 1 → b / 2 ^ r % 2 = 1) := by
  intro a ha b hb
  have e1 : nI a &&& (nI b ^^^ -nI 1) = nI (a &&& (255 - b)) := by
    have e2 : (nI b ^^^ -nI 1).toBitVec.toNat = 2 ^ 32 - 1 - b := by
      have : nI b ^^^ -nI 1 = ~~~ (nI b) := by
        apply Int32.toBitVec_inj.mp
        rw [Int32.toBitVec_xor, Int32.toBitVec_not, show (-nI 1 : Int32).toBitVec = BitVec.allOnes 32 from by decide +kernel, BitVec.xor_allOnes]
      rw [this, Int32.toBitVec_not, BitVec.toNat_not, pk_tn (by omega)]
    apply Int32.toBitVec_inj.mp
    apply BitVec.eq_of_toNat_eq
    rw [Int32.toBitVec_and, BitVec.toNat_and, pk_tn (by omega), e2, pk_tn (Nat.lt_of_le_of_lt Nat.and_le_left (by omega))]
    apply Nat.eq_of_testBit_eq
    intro i
    rw [Nat.testBit_and, Nat.testBit_and]
    by_cases hi : i < 8
    · congr 1
      rw [show 2 ^ 32 - 1 - b = 2 ^ 32 - (b + 1) by omega, Nat.testBit_two_pow_sub_succ (by omega), show 255 - b = 2 ^ 8 - (b + 1) by omega, Nat.testBit_two_pow_sub_succ (by omega), decide_eq_true hi, decide_eq_true (show i < 32 by omega)]
    · have : a.testBit i = false := Nat.testBit_lt_two_pow (Nat.lt_of_lt_of_le (show a < 2 ^ 8 from ha) (Nat.pow_le_pow_right (by omega) (by omega : 8 ≤ i)))
      rw [this, Bool.false_and, Bool.false_and]
  have ha2 : a &&& (255 - b) < 256 := Nat.lt_of_le_of_lt Nat.and_le_left ha
  rw [e1]; simp (disch := omega) only [nI_eq]
  constructor
  · intro q r hr hr2
    have h2 : (a &&& (255 - b)).testBit r = false := by rw [q]; exact Nat.zero_testBit r
    rw [Nat.testBit_and, show 255 - b = 2 ^ 8 - (b + 1) by omega, Nat.testBit_two_pow_sub_succ (by omega), decide_eq_true hr, Nat.testBit_eq_decide_div_mod_eq, hr2] at h2
    have h3 : b.testBit r = true := by simpa using h2
    rw [Nat.testBit_eq_decide_div_mod_eq, decide_eq_true_iff] at h3
    exact h3
  · intro q
    apply Nat.eq_of_testBit_eq
    intro i
    rw [Nat.zero_testBit, Nat.testBit_and]
    by_cases hi : i < 8
    · by_cases h2 : a / 2 ^ i % 2 = 1
      · have h3 := q i hi h2
        have h4 : b.testBit i = true := by rw [Nat.testBit_eq_decide_div_mod_eq, decide_eq_true_iff]; exact h3
        rw [show 255 - b = 2 ^ 8 - (b + 1) by omega, Nat.testBit_two_pow_sub_succ (by omega), h4]
        simp
      · have h4 : a.testBit i = false := by rw [Nat.testBit_eq_decide_div_mod_eq, decide_eq_false_iff_not]; exact h2
        rw [h4, Bool.false_and]
    · have : a.testBit i = false := Nat.testBit_lt_two_pow (Nat.lt_of_lt_of_le (show a < 2 ^ 8 from ha) (Nat.pow_le_pow_right (by omega) (by omega : 8 ≤ i)))
      rw [this, Bool.false_and]
theorem bit_hi {S n r : Nat} (hS : S < 2 ^ n) (hr : n ≤ r) : S / 2 ^ r % 2 = 0 := by
  rw [Nat.div_eq_of_lt (Nat.lt_of_lt_of_le hS (Nat.pow_le_pow_right (by omega) hr))]
def mayQ (ρ : RwQ) (b : Nat) : Nat := bitsQ (canU ρ b) (ρ 4)
theorem subM_dec {ρ : RwQ} (h8 : ρ 4 ≤ 8) {b S : Nat} (hS : S < 2 ^ (ρ 4)) : (nI S &&& (nI (mayQ ρ b) ^^^ -nI 1) = nI 0 ↔ subM ρ b S = true) := by
  have h1 := bits_lt (canU ρ b) (ρ 4)
  have h2 := pow_le h8
  unfold mayQ
  rw [sub_dec S (by omega) _ (by omega)]
  rw [subM_iff]
  constructor
  · intro q r hr hr2
    have h3 := q r (by omega) hr2
    rw [bits_bit _ _ _ hr] at h3
    cases hc : canU ρ b r
    · rw [hc] at h3; cases h3
    · rfl
  · intro q r hr hr2
    by_cases hr4 : r < ρ 4
    · rw [bits_bit _ _ _ hr4, q r hr4 hr2] <;> rfl
    · rw [bit_hi hS (by omega)] at hr2; omega
section
variable {μ : Mem} {s : Nat} {ρ : RwQ} {π : PnQ}
theorem pc_le {S : Nat} : pc S ≤ 8 := by
  have := sumN_le (f := fun k => S / 2 ^ k % 2) (c := 1) (n := 8) (fun k _ => by omega)
  unfold pc
  omega
theorem setFor_s (C : Cur μ s ρ) (hW : WF ρ) (hP : PMQ μ π) (hB : PBQ π) {b : Nat} (hb : b < ρ 37) : OkQ (fX6_setFor (nI b) μ) (fun r => r.1 = (if stRQ ρ π.1 b = 0 then -nI 1 else nI (stRQ ρ π.1 b)) ∧ Cur r.2 s ρ ∧ PMQ r.2 π ∧ FrQ KPm μ r.2) := by
  have h8 := hW.1
  have h17 := hW.2.1
  have hw := hW.2.2.2.2 b hb
  have hpl := pow_le h8
  have hl1 : OkQ (loop (stX6_setFor_4 (nI b)) 5000 (nI 0, nI 0, μ)) (fun r => r.1 = nI (mayQ ρ b) ∧ Cur r.2 s ρ ∧ PMQ r.2 π ∧ (∀ i, i < ρ 4 → rI r.2 80 0 i = nI (freeC ρ π.1 b i)) ∧ FrQ KPm μ r.2) := by
    refine loop_ok (ρ 4) (fun k a => a.1 = nI (bitsQ (canU ρ b) k) ∧ a.2.1 = nI k ∧ Cur a.2.2 s ρ ∧ PMQ a.2.2 π ∧ (∀ i, i < k → rI a.2.2 80 0 i = nI (freeC ρ π.1 b i)) ∧ FrQ KPm μ a.2.2) (by omega) ⟨rfl, rfl, C, hP, fun i hi => absurd hi (Nat.not_lt_zero _), Fr_rfl μ⟩ ?_
    rintro k ⟨a1, a2, a3⟩ hk ⟨e1, e2, C2, P2, e3, F2⟩
    try dsimp only at e1 e2 C2 P2 e3 F2
    subst e1 e2
    unfold stX6_setFor_4 jX6_setFor_42
    try dsimp only
    simp only [l_0, l_1, l_4]
    rw [get_s C2 (by omega), Option.bind_some]
    by_cases hkn : k = ρ 4
    · subst hkn
      rw [if_pos (nI_le (Nat.le_refl _) (by omega))]
      exact ⟨_, rfl, rfl, C2, P2, e3, F2⟩
    · have hwr := hW.2.2.2.1 k (by omega)
      have hbl := bits_lt (canU ρ b) k
      have hpk : 2 ^ k ≤ 2 ^ 7 := Nat.pow_le_pow_right (by omega) (by omega)
      have F3 : FrQ KPm a3 (wI a3 80 0 k (nI (freeC ρ π.1 b k))) := Fr_wI ⟨by omega, rfl⟩
      have C3 : Cur (wI a3 80 0 k (nI (freeC ρ π.1 b k))) s ρ := Cur_wI C2 (by omega) (by omega)
      have F4 : FrQ (fun k _ _ => k = 80) a3 (wI a3 80 0 k (nI (freeC ρ π.1 b k))) := Fr_wI rfl
      rw [if_neg (nI_ge (by omega) (by omega)), freeFor_s C2 P2.1 hB.1 (by omega) hw (by omega) hwr.2.1.2, Option.bind_some, gd_inb (by omega) (by omega), nI_clamp (by omega), canUse_s C3 (by omega) (by omega) hw.2.2.2.1 hwr.2.2.1, Option.bind_some]; simp (disch := omega) only [b1_z]; rw [nI_shl (by omega) (by omega), nI_add]
      have hrest : ∀ v, v = nI (bitsQ (canU ρ b) (k + 1)) → OkQ (some (Sum.inl (v, nI (k + 1), wI a3 80 0 k (nI (freeC ρ π.1 b k)))) : Option ((Int32 × Int32 × Mem) ⊕ (Int32 × Mem))) (fun r => Sum.elim (fun a2 => k < ρ 4 ∧ a2.1 = nI (bitsQ (canU ρ b) (k + 1)) ∧ a2.2.1 = nI (k + 1) ∧ Cur a2.2.2 s ρ ∧ PMQ a2.2.2 π ∧ (∀ i, i < k + 1 → rI a2.2.2 80 0 i = nI (freeC ρ π.1 b i)) ∧ FrQ KPm μ a2.2.2) (fun r => r.1 = nI (mayQ ρ b) ∧ Cur r.2 s ρ ∧ PMQ r.2 π ∧ (∀ i, i < ρ 4 → rI r.2 80 0 i = nI (freeC ρ π.1 b i)) ∧ FrQ KPm μ r.2) r) := by
        intro v hv
        refine ⟨_, rfl, by omega, hv, rfl, C3, PM_fr P2 F4 (fun k r _ _ => by omega), ?_, Fr_tr F2 F3⟩
        intro i hi
        show rI (wI a3 80 0 k (nI (freeC ρ π.1 b k))) 80 0 i = _
        rw [rI_wI]
        by_cases hik : i = k
        · subst hik; rw [if_pos ⟨rfl, rfl, rfl⟩]
        · rw [if_neg (fun q => hik q.2.2)]; exact e3 i (by omega)
      by_cases hc : canU ρ b k = true
      · rw [if_neg (by rw [hc]; decide)]
        refine hrest _ ?_
        rw [Nat.one_mul, nI_or (by omega) (by omega), or_pow hbl]
        show _ = nI (bitsQ (canU ρ b) k + bitsT (canU ρ b) k)
        unfold bitsT
        rw [if_pos hc]
      · rw [if_pos (by simpa using hc)]
        refine hrest _ ?_
        rw [nI_or (by omega) (by omega), Nat.or_zero]
        show _ = nI (bitsQ (canU ρ b) k + bitsT (canU ρ b) k)
        unfold bitsT
        rw [if_neg hc, Nat.add_zero]
  have hl2 : ∀ m : Int32 × Mem, m.1 = nI (mayQ ρ b) → Cur m.2 s ρ → (∀ i, i < ρ 4 → rI m.2 80 0 i = nI (freeC ρ π.1 b i)) → loop (stX6_setFor_55 m (nI b)) 5000 (nI 0, nI 1) = some (nI (stRQ ρ π.1 b)) := by
    intro m hm Cm hF
    have hpp := pow_pos (ρ 4)
    refine loop_st (2 ^ (ρ 4) - 1) (fun k => (nI (stSQ ρ π.1 b k), nI (k + 1))) (by omega) rfl ?_ ?_
    · intro k hk
      have hle := stS_le (ρ := ρ) (h := π.1) (b := b) k
      have hp1 := pc_le (S := k + 1)
      have hp2 := pc_le (S := stSQ ρ π.1 b k)
      have eS : stSQ ρ π.1 b (k + 1) = if subM ρ b (k + 1) = true ∧ (stSQ ρ π.1 b k = 0 ∨ pc (k + 1) < pc (stSQ ρ π.1 b k)) ∧ enoughQ ρ (freeC ρ π.1 b) b (k + 1) = true then k + 1 else stSQ ρ π.1 b k := rfl
      unfold stX6_setFor_55 jX6_setFor_95 jX6_setFor_111 jX6_setFor_112
      try dsimp only
      simp only [l_0, l_1, l_4]
      rw [get_s Cm (by omega), Option.bind_some, nI_shl (by omega) (by omega), Nat.one_mul, if_neg (nI_ge (by omega) (by omega)), hm]; simp (disch := omega) only [subM_dec h8, nI_eq]; rw [isEnough_s Cm hW hF (fun r hr => Nat.le_trans freeC_le (hW.2.2.2.1 r hr).2.1.2) hb (by omega), Option.bind_some, many_s (by omega), Option.bind_some, many_s (by omega), Option.bind_some]; simp (disch := omega) only [nI_ltI, b1_z]; rw [nI_add]
      show _ = some (Sum.inl (nI (stSQ ρ π.1 b (k + 1)), nI (k + 1 + 1)))
      rw [eS]
      by_cases q1 : subM ρ b (k + 1) = true
      · rw [if_neg (fun q => q q1)]
        have hen : (if enoughQ ρ (freeC ρ π.1 b) b (k + 1) = false then (some (Sum.inl (nI (stSQ ρ π.1 b k), nI (k + 1 + 1))) : Option ((Int32 × Int32) ⊕ Int32)) else some (Sum.inl (nI (k + 1), nI (k + 1 + 1)))) = some (Sum.inl (nI (if enoughQ ρ (freeC ρ π.1 b) b (k + 1) = true then k + 1 else stSQ ρ π.1 b k), nI (k + 1 + 1))) := by
          cases enoughQ ρ (freeC ρ π.1 b) b (k + 1) <;> rfl
        by_cases q2 : stSQ ρ π.1 b k = 0
        · rw [if_pos q2, hen]
          by_cases q4 : enoughQ ρ (freeC ρ π.1 b) b (k + 1) = true
          · rw [if_pos q4, if_pos ⟨q1, Or.inl q2, q4⟩]
          · rw [if_neg q4, if_neg (fun q => q4 q.2.2)]
        · rw [if_neg q2]
          by_cases q3 : pc (k + 1) < pc (stSQ ρ π.1 b k)
          · rw [if_pos q3, hen]
            by_cases q4 : enoughQ ρ (freeC ρ π.1 b) b (k + 1) = true
            · rw [if_pos q4, if_pos ⟨q1, Or.inr q3, q4⟩]
            · rw [if_neg q4, if_neg (fun q => q4 q.2.2)]
          · rw [if_neg q3, if_neg (fun q => q.2.1.elim q2 q3)]
      · rw [if_pos q1, if_neg (fun q => q1 q.1)]
    · unfold stX6_setFor_55
      try dsimp only
      simp only [l_1, l_4]
      rw [get_s Cm (by omega), Option.bind_some, nI_shl (by omega) (by omega), Nat.one_mul, if_pos (nI_le (by omega) (by omega))] <;> rfl
  unfold fX6_setFor
  simp only [l_0, l_1]
  refine Ok_bind hl1 ?_
  rintro m ⟨m1, m2, m3, m4, m5⟩
  rw [hl2 m m1 m2 m4, Option.bind_some]
  have := stR_lt (h := π.1) (b := b) h8
  simp (disch := omega) only [nI_eq]
  by_cases q : stRQ ρ π.1 b = 0
  · rw [if_neg (fun w => w q)]
    exact ⟨_, rfl, by rw [if_pos q], m2, m3, m5⟩
  · rw [if_pos q]
    exact ⟨_, rfl, by rw [if_neg q], m2, m3, m5⟩
/-- a person takes a bed -/
theorem takes_s (C : Cur μ s ρ) (hP : PMQ μ π) {b p r d : Nat} (hb : b < 17) (hw : WFb ρ b) (hp : p < 12) (hr : r < 8) (hd : d < 10) : OkQ (fX6_takes (nI b) (nI p) (nI r) (nI d) μ) (fun μ2 => Cur μ2 s ρ ∧ PMQ μ2 (tkH ρ π.1 b (10 * r + d), π.2.1, upQ π.2.2 (12 * b + p) (10 * r + d + 1)) ∧ FrQ KPm μ μ2) := by
  have hl : OkQ (loop (stX6_takes_28 (nI b) (nI r) (nI d)) 5000 (nI 0, wI (wI μ 78 0 (12 * b + p) (nI r)) 79 0 (12 * b + p) (nI d))) (fun μ2 => Cur μ2 s ρ ∧ (∀ i, i < 2400 → rI μ2 76 0 i = mI (tkH ρ π.1 b (10 * r + d) i)) ∧ FrQ (fun k j _ => k = 76 ∧ j = 0) (wI (wI μ 78 0 (12 * b + p) (nI r)) 79 0 (12 * b + p) (nI d)) μ2) := by
    refine loop_ok 30 (fun k a => a.1 = nI k ∧ Cur a.2 s ρ ∧ (∀ i, i < 2400 → rI a.2 76 0 i = mI (if i / 30 = 10 * r + d ∧ i % 30 < k ∧ staysQ ρ b (i % 30) = true then b + 1 else π.1 i)) ∧ FrQ (fun k j _ => k = 76 ∧ j = 0) (wI (wI μ 78 0 (12 * b + p) (nI r)) 79 0 (12 * b + p) (nI d)) a.2) (by omega) ⟨rfl, Cur_wI (Cur_wI C (by omega) (by omega)) (by omega) (by omega), fun i hi => ?_, Fr_rfl _⟩ ?_
    · rw [if_neg (by omega)]
      show rI (wI (wI μ 78 0 _ _) 79 0 _ _) 76 0 i = _
      rw [rI_wI, if_neg (by omega), rI_wI, if_neg (by omega)]
      exact hP.1 i hi
    rintro k ⟨a1, a2⟩ hk ⟨e1, C2, e2, F2⟩
    try dsimp only at e1 C2 e2 F2
    subst e1
    unfold stX6_takes_28 jX6_takes_59 fX6_spot
    try dsimp only
    simp only [l_0, l_1, l_10, l_30, Option.bind_some, nI_add, pk_mul]
    by_cases hkn : k = 30
    · subst hkn
      rw [if_pos (nI_le (Nat.le_refl _) (by omega))]
      refine ⟨_, rfl, C2, fun i hi => ?_, F2⟩
      show rI a2 76 0 i = _
      rw [e2 i hi]
      unfold tkH
      by_cases q : i / 30 = 10 * r + d ∧ staysQ ρ b (i % 30) = true
      · rw [if_pos q, if_pos ⟨q.1, by omega, q.2⟩]
      · rw [if_neg q, if_neg (fun w => q ⟨w.1, w.2.2⟩)]
    · rw [if_neg (nI_ge (by omega) (by omega)), staysIn_s C2 hb hw (by omega), Option.bind_some]; simp (disch := omega) only [b1_z]; rw [gd_inb (by omega) (by omega), nI_clamp (by omega)]
      by_cases hs : staysQ ρ b k = true
      · rw [if_neg (by rw [hs]; decide)]
        refine ⟨_, rfl, by omega, rfl, Cur_wI C2 (by omega) (by omega), fun i hi => ?_, Fr_tr F2 (Fr_wI ⟨rfl, rfl⟩)⟩
        show rI (wI a2 76 0 _ _) 76 0 i = _
        rw [rI_wI]
        by_cases hik : i = (10 * r + d) * 30 + k
        · rw [if_pos ⟨rfl, rfl, hik⟩, if_pos ⟨by omega, by omega, by rw [show i % 30 = k by omega]; exact hs⟩, mI_s]
        · rw [if_neg (fun q => hik q.2.2), e2 i hi]
          by_cases q : i / 30 = 10 * r + d ∧ i % 30 < k ∧ staysQ ρ b (i % 30) = true
          · rw [if_pos q, if_pos ⟨q.1, by omega, q.2.2⟩]
          · rw [if_neg q, if_neg (fun w => q ⟨w.1, by omega, w.2.2⟩)]
      · rw [if_pos (by simpa using hs)]
        refine ⟨_, rfl, by omega, rfl, C2, fun i hi => ?_, F2⟩
        show rI a2 76 0 i = _
        rw [e2 i hi]
        by_cases q : i / 30 = 10 * r + d ∧ i % 30 < k ∧ staysQ ρ b (i % 30) = true
        · rw [if_pos q, if_pos ⟨q.1, by omega, q.2.2⟩]
        · rw [if_neg q, if_neg (fun w => q ⟨w.1, by
            have : i % 30 ≠ k := fun e => hs (by rw [← e]; exact w.2.2)
            omega, w.2.2⟩)]
  unfold fX6_takes
  simp only [l_0, l_12, nI_add, pk_mul]
  rw [gd_inb (by omega) (by omega), nI_clamp (by omega)]
  refine Ok_bind hl ?_
  rintro μ2 ⟨C2, e2, F2⟩
  have F0 : FrQ KPm μ (wI (wI μ 78 0 (12 * b + p) (nI r)) 79 0 (12 * b + p) (nI d)) := Fr_tr (Fr_wI ⟨by omega, rfl⟩) (Fr_wI ⟨by omega, rfl⟩)
  refine ⟨_, rfl, C2, ⟨e2, ?_, ?_⟩, Fr_tr F0 (Fr_mono F2 (fun k j _ q => ⟨by omega, q.2⟩))⟩
  · intro x hx
    rw [F2.1 77 0 x (by omega), rI_wI, if_neg (by omega), rI_wI, if_neg (by omega)]
    exact hP.2.1 x hx
  · intro i hi h0
    rw [F2.1 78 0 i (by omega), F2.1 79 0 i (by omega), rI_wI, if_neg (by omega), rI_wI, rI_wI]
    by_cases hik : i = 12 * b + p
    · subst hik
      rw [if_pos ⟨rfl, rfl, rfl⟩, if_pos ⟨rfl, rfl, rfl⟩]
      show nI r = nI ((upQ π.2.2 (12 * b + p) (10 * r + d + 1) (12 * b + p) - 1) / 10) ∧ nI d = nI ((upQ π.2.2 (12 * b + p) (10 * r + d + 1) (12 * b + p) - 1) % 10)
      rw [up_s]
      exact ⟨by congr 1; omega, by congr 1; omega⟩
    · rw [if_neg (fun q => hik q.2.2), if_neg (fun q => hik q.2.2), rI_wI, if_neg (by omega)]
      have e : upQ π.2.2 (12 * b + p) (10 * r + d + 1) i = π.2.2 i := up_n hik
      show _ = nI ((upQ π.2.2 (12 * b + p) (10 * r + d + 1) i - 1) / 10) ∧ _ = nI ((upQ π.2.2 (12 * b + p) (10 * r + d + 1) i - 1) % 10)
      rw [e]
      exact hP.2.2 i hi (by rw [← e]; exact h0)
end
