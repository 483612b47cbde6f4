/-! layer 2: reading on both sides -/
def nxT (N : Nat) (B : Nat → Int32) (s : Nat) : Nat := skp N B (tkE N B s)
def FA (σ σ2 : Mem) : Prop := FrG (fun k _ _ => 8 ≤ k ∧ k ≤ 11) (fun k _ _ => k = 0) σ σ2
def FY (μ μ2 : Mem) : Prop := FrG (fun k _ _ => 71 ≤ k ∧ k ≤ 75) (fun k _ _ => k = 10) μ μ2
def RdC (σ : Mem) (N : Nat) (B : Nat → Int32) (s : Nat) : Prop := TxC σ N B ∧ s ≤ N ∧ TkC σ N B s
def RdR (μ : Mem) (N : Nat) (B : Nat → Int32) (s : Nat) : Prop := TxR μ N B ∧ s ≤ N ∧ TkR μ N B s ∧ rI μ 75 0 0 = -nI 1
def Bad (μ : Mem) (w : Nat) : Prop := w ≤ 700 ∧ rI μ 75 0 0 = nI w
theorem tkK_le (N : Nat) (B : Nat → Int32) (s : Nat) : tkK N B s ≤ 4 := by
  unfold tkK
  by_cases q : s < N
  · rw [if_pos q]
    by_cases ql : ltr (B s) = true
    · rw [if_pos ql]
      by_cases z : 8 < lts N B s
      · rw [if_pos z]; omega
      · rw [if_neg z]; omega
    · rw [if_neg ql]
      by_cases qd : dgt (B s) = true
      · rw [if_pos qd]
        by_cases z : 3 < dgs N B s
        · rw [if_pos z]; omega
        · rw [if_neg z]; omega
      · rw [if_neg qd]
        by_cases z : B s = nI 59
        · rw [if_pos z]; omega
        · rw [if_neg z]; omega
  · rw [if_neg q]; omega
def okN (N : Nat) (B : Nat → Int32) (s lo hi : Nat) : Bool := decide (tkK N B s = 2 ∧ nI lo ≤ vlN B s (dgs N B s) ∧ vlN B s (dgs N B s) ≤ nI hi)
def vlT (N : Nat) (B : Nat → Int32) (s : Nat) : Nat := (vlN B s (dgs N B s)).toInt.toNat
theorem nI_rng {x : Int32} {lo hi : Nat} (hh : hi < 2 ^ 31) (hl : lo < 2 ^ 31) (h1 : nI lo ≤ x) (h2 : x ≤ nI hi) : x = nI x.toInt.toNat ∧ lo ≤ x.toInt.toNat ∧ x.toInt.toNat ≤ hi := by
  rw [Int32.le_iff_toInt_le, nI_toInt hl] at h1
  rw [Int32.le_iff_toInt_le, nI_toInt hh] at h2
  refine ⟨?_, by omega, by omega⟩
  apply Int32.toInt_inj.mp
  rw [nI_toInt (by omega)]; omega
theorem okN_v {N : Nat} {B : Nat → Int32} {s lo hi : Nat} (h : okN N B s lo hi = true) (hh : hi < 2 ^ 31) (hl : lo < 2 ^ 31) : vlN B s (dgs N B s) = nI (vlT N B s) ∧ lo ≤ vlT N B s ∧ vlT N B s ≤ hi := by
  obtain ⟨h1, h2, h3⟩ := of_decide_eq_true h
  exact nI_rng hh hl h2 h3
section
variable {σ σ2 μ μ2 : Mem} {N s w : Nat} {B : Nat → Int32}
theorem nxT_le (hs : s ≤ N) : s ≤ nxT N B s ∧ nxT N B s ≤ N := by
  have h1 := tkE_le (B := B) hs
  have h2 := skp_le (B := B) h1.2
  unfold nxT
  omega
theorem FA_rfl (σ : Mem) : FA σ σ := FrG_rfl σ
theorem FY_rfl (σ : Mem) : FY σ σ := FrG_rfl σ
theorem FA_tr {a b c : Mem} (h1 : FA a b) (h2 : FA b c) : FA a c := FrG_tr h1 h2
theorem FY_tr {a b c : Mem} (h1 : FY a b) (h2 : FY b c) : FY a c := FrG_tr h1 h2
theorem RdC_fr {K KJ : Nat → Nat → Nat → Prop} (R : RdC σ N B s) (F : FrG K KJ σ σ2) (hk : ∀ k j r, K k j r → k < 6 ∨ 11 < k) (hj : ∀ k j r, KJ k j r → k ≠ 0) : RdC σ2 N B s := by
  obtain ⟨⟨h1, h2, h3⟩, h4, ⟨t1, t2, t3, t4, t5⟩⟩ := R
  have e : ∀ k j r, 6 ≤ k → k ≤ 11 → rI σ2 k j r = rI σ k j r := fun k j r a b => F.1 k j r (fun z => by have := hk k j r z; omega)
  refine ⟨⟨h1, by rw [e 7 0 0 (by omega) (by omega)]; exact h2, fun i hi => by rw [e 6 0 i (by omega) (by omega)]; exact h3 i hi⟩, h4, ?_, ?_, ?_, fun z => ?_, fun z => ?_⟩
  · rw [e 9 0 0 (by omega) (by omega)]; exact t1
  · rw [e 8 0 0 (by omega) (by omega)]; exact t2
  · rw [e 10 0 0 (by omega) (by omega)]; exact t3
  · rw [F.2.1 0 0 0 (fun z => hj 0 0 0 z rfl)]; exact t4 z
  · rw [e 11 0 0 (by omega) (by omega)]; exact t5 z
theorem RdR_fr {K KJ : Nat → Nat → Nat → Prop} (R : RdR μ N B s) (F : FrG K KJ μ μ2) (hk : ∀ k j r, K k j r → k < 65 ∨ (65 < k ∧ k < 70) ∨ 75 < k) (hj : ∀ k j r, KJ k j r → k ≠ 10) : RdR μ2 N B s := by
  obtain ⟨⟨h1, h2, h3⟩, h4, ⟨t1, t2, t3, t4, t5⟩, h5⟩ := R
  have e : ∀ k j r, (k = 65 ∨ 70 ≤ k ∧ k ≤ 75) → rI μ2 k j r = rI μ k j r := fun k j r a => F.1 k j r (fun z => by have := hk k j r z; omega)
  refine ⟨⟨h1, by rw [e 70 0 0 (by omega)]; exact h2, fun i hi => by rw [e 65 0 i (by omega)]; exact h3 i hi⟩, h4, ⟨?_, ?_, ?_, fun z => ?_, fun z => ?_⟩, by rw [e 75 0 0 (by omega)]; exact h5⟩
  · rw [e 72 0 0 (by omega)]; exact t1
  · rw [e 71 0 0 (by omega)]; exact t2
  · rw [e 73 0 0 (by omega)]; exact t3
  · rw [F.2.1 10 0 0 (fun z => hj 10 0 0 z rfl)]; exact t4 z
  · rw [e 74 0 0 (by omega)]; exact t5 z
theorem adv_h (R : RdC σ N B s) : OkQ (fX2_advance σ) (fun σ2 => RdC σ2 N B (nxT N B s) ∧ FA σ σ2) := by
  obtain ⟨T, h4, t1, t2, t3, t4, t5⟩ := R
  obtain ⟨σ2, a1, a2, a3⟩ := advance_h T (tkE_le h4).2 t2
  refine ⟨σ2, a1, ⟨⟨T.1, ?_, fun i hi => ?_⟩, (nxT_le h4).2, a2⟩, a3⟩
  · rw [a3.1 7 0 0 (by omega)]; exact T.2.1
  · rw [a3.1 6 0 i (by omega)]; exact T.2.2 i hi
theorem rtk_s (R : RdR μ N B s) : OkQ (fX6_readToken μ) (fun μ2 => RdR μ2 N B (nxT N B s) ∧ FY μ μ2) := by
  obtain ⟨T, h4, ⟨t1, t2, t3, t4, t5⟩, h5⟩ := R
  obtain ⟨μ2, a1, a2, a3⟩ := readToken_s T (tkE_le h4).2 t2
  refine ⟨μ2, a1, ⟨⟨T.1, ?_, fun i hi => ?_⟩, (nxT_le h4).2, a2, ?_⟩, FrG_mono a3 (fun k j r z => by omega) (fun k j r z => z)⟩
  · rw [a3.1 70 0 0 (by omega)]; exact T.2.1
  · rw [a3.1 65 0 i (by omega)]; exact T.2.2 i hi
  · rw [a3.1 75 0 0 (by omega)]; exact h5
theorem well_Y (R : RdR μ N B s) : fX6_isWell μ = some (nI 1) := by
  unfold fX6_isWell
  simp only [l_0, l_1]
  rw [R.2.2.2, if_neg (fun z => z rfl)]
theorem well_N (R : Bad μ w) : fX6_isWell μ = some (nI 0) := by
  unfold fX6_isWell
  simp only [l_0, l_1]
  rw [R.2, if_pos (nI_m1 (by have := R.1; omega))]
theorem must_Y : fX6_must (nI 1) μ = some μ := by
  unfold fX6_must
  simp only [l_0]
  rw [if_pos (by decide)]
theorem must_N (R : RdR μ N B s) : fX6_must (nI 0) μ = some (wI μ 75 0 0 (nI s)) := by
  unfold fX6_must
  simp only [l_0, l_1]
  rw [if_neg (by decide), R.2.2.2, if_neg (fun z => z rfl), R.2.2.1.1]
theorem must_B (R : Bad μ w) (x : Int32) : fX6_must x μ = some μ := by
  unfold fX6_must
  simp only [l_0, l_1]
  rw [R.2, if_pos (nI_m1 (by have := R.1; omega))]
  by_cases z : x = nI 0
  · rw [if_neg (fun y => y z)]
  · rw [if_pos z]
theorem bad_s (R : RdR μ N B s) : Bad (wI μ 75 0 0 (nI s)) s ∧ FY μ (wI μ 75 0 0 (nI s)) := ⟨⟨by have := R.1.1; have := R.2.1; omega, rI_wI_self⟩, FrG_wI (by omega)⟩
theorem go_s (R : RdR μ N B s) : OkQ (fX6_goesOn μ) (fun μ2 => RdR μ2 N B (nxT N B s) ∧ FY μ μ2) := by
  unfold fX6_goesOn
  simp only [l_0]
  rw [well_Y R, Option.bind_some, if_neg (by decide)]
  obtain ⟨μ2, a1, a2⟩ := rtk_s R
  rw [a1, Option.bind_some]
  exact ⟨_, rfl, a2⟩
theorem go_B (R : Bad μ w) : fX6_goesOn μ = some μ := by
  unfold fX6_goesOn
  simp only [l_0]
  rw [well_N R, Option.bind_some, if_pos rfl]
theorem isIn_t (x lo hi : Int32) : ∃ v, fX6_isIn x lo hi = some v := ⟨_, isIn_b x lo hi⟩
theorem val_B (R : Bad μ w) (lo hi : Int32) : fX6_readValue lo hi μ = some (nI 0, μ) := by
  have e : ∀ t, jX6_readValue_26 μ t = some (nI 0, μ) := by
    intro t
    unfold jX6_readValue_26
    simp only [l_0]
    rw [must_B R, Option.bind_some, well_N R, Option.bind_some, if_neg (fun z => z rfl)]
  unfold fX6_readValue jX6_readValue_25
  rw [e, e]
  obtain ⟨v, hv⟩ := isIn_t (rI μ 74 0 0) lo hi
  rw [hv, Option.bind_some]
  by_cases z : rI μ 73 0 0 = 2
  · rw [if_neg (fun y => y z)]
    by_cases z2 : v = 0
    · rw [if_pos z2]
    · rw [if_neg z2]
  · rw [if_pos z]
theorem ends_B (R : Bad μ w) : fX6_ends μ = some μ := by
  unfold fX6_ends
  rw [must_B R, must_B R, Option.bind_some]
  by_cases z : rI μ 73 0 0 = 3
  · rw [if_neg (fun y => y z)]
  · rw [if_pos z]
theorem num_h (R : RdC σ N B s) (lo hi : Nat) : ∃ σ2, fX2_readNumber (nI lo) (nI hi) σ = some (nI (b1 (okN N B (nxT N B s) lo hi)), σ2) ∧ RdC σ2 N B (nxT N B s) ∧ FA σ σ2 ∧ (lo < 2 ^ 31 → hi < 2 ^ 31 → okN N B (nxT N B s) lo hi = true → rI σ2 11 0 0 = nI (vlT N B (nxT N B s)) ∧ lo ≤ vlT N B (nxT N B s) ∧ vlT N B (nxT N B s) ≤ hi) := by
  obtain ⟨σ2, a1, a2, a3⟩ := adv_h R
  obtain ⟨-, -, t1, t2, t3, t4, t5⟩ := id a2
  have h4 := tkK_le N B (nxT N B s)
  refine ⟨σ2, ?_, a2, a3, fun h1 h2 h3 => ?_⟩
  · unfold fX2_readNumber jX2_readNumber_32
    simp only [l_0, l_1, l_2]
    rw [a1, Option.bind_some, t3]
    by_cases z : tkK N B (nxT N B s) = 2
    · rw [if_neg (fun y => y (by rw [z])), t5 z]
      by_cases z1 : vlN B (nxT N B s) (dgs N B (nxT N B s)) < nI lo
      · rw [if_pos z1, show okN N B (nxT N B s) lo hi = false from decide_eq_false (fun y => Int32.not_lt.mpr y.2.1 z1)] <;> rfl
      · rw [if_neg z1]
        by_cases z2 : nI hi < vlN B (nxT N B s) (dgs N B (nxT N B s))
        · rw [if_pos z2, show okN N B (nxT N B s) lo hi = false from decide_eq_false (fun y => Int32.not_lt.mpr y.2.2 z2)] <;> rfl
        · rw [if_neg z2, show okN N B (nxT N B s) lo hi = true from decide_eq_true ⟨z, Int32.not_lt.mp z1, Int32.not_lt.mp z2⟩] <;> rfl
    · rw [if_pos (nI_ne (by omega) (by omega) z), show okN N B (nxT N B s) lo hi = false from decide_eq_false (fun y => z y.1)] <;> rfl
  · obtain ⟨v1, v2⟩ := okN_v h3 h2 h1
    exact ⟨by rw [t5 (of_decide_eq_true h3).1]; exact v1, v2⟩
theorem val_Y (R : RdR μ N B s) {lo hi : Nat} (h1 : lo < 2 ^ 31) (h2 : hi < 2 ^ 31) (h : okN N B s lo hi = true) : OkQ (fX6_readValue (nI lo) (nI hi) μ) (fun r => r.1 = nI (vlT N B s) ∧ RdR r.2 N B (nxT N B s) ∧ FY μ r.2) := by
  obtain ⟨k1, k2, k3⟩ := of_decide_eq_true h
  obtain ⟨v1, v2⟩ := okN_v h h2 h1
  obtain ⟨-, -, ⟨t1, t2, t3, t4, t5⟩, -⟩ := id R
  obtain ⟨μ2, a1, a2, a3⟩ := rtk_s R
  unfold fX6_readValue jX6_readValue_26
  simp only [l_0, l_1, l_2]
  rw [t3, k1, if_neg (fun z => z rfl), t5 k1, isIn_b, show decide (nI lo ≤ vlN B s (dgs N B s) ∧ vlN B s (dgs N B s) ≤ nI hi) = true from decide_eq_true ⟨k2, k3⟩, Option.bind_some, if_neg (by decide), must_Y, Option.bind_some, well_Y R, Option.bind_some, if_pos (by decide), a1, Option.bind_some]
  exact ⟨_, rfl, (show rI μ 74 0 0 = _ by rw [t5 k1]; exact v1), a2, a3⟩
theorem val_N (R : RdR μ N B s) {lo hi : Nat} (h : okN N B s lo hi = false) : fX6_readValue (nI lo) (nI hi) μ = some (nI 0, wI μ 75 0 0 (nI s)) := by
  have k := of_decide_eq_false h
  have h4 := tkK_le N B s
  obtain ⟨-, -, ⟨t1, t2, t3, t4, t5⟩, -⟩ := id R
  have e : jX6_readValue_26 μ (nI 0) = some (nI 0, wI μ 75 0 0 (nI s)) := by
    unfold jX6_readValue_26
    simp only [l_0]
    rw [must_N R, Option.bind_some, well_N (bad_s R).1, Option.bind_some, if_neg (fun z => z rfl)]
  unfold fX6_readValue jX6_readValue_25
  simp only [l_0, l_2]
  rw [t3, e]
  by_cases z : tkK N B s = 2
  · rw [if_neg (fun y => y (by rw [z])), t5 z, isIn_b, show decide (nI lo ≤ vlN B s (dgs N B s) ∧ vlN B s (dgs N B s) ≤ nI hi) = false from decide_eq_false (fun y => k ⟨z, y⟩), Option.bind_some, if_pos (show nI (b1 false) = nI 0 from rfl)]
  · rw [if_pos (nI_ne (by omega) (by omega) z)]
theorem end_h (R : RdC σ N B s) : ∃ σ2, fX2_readEnd σ = some (nI (b1 (decide (tkK N B (nxT N B s) = 3))), σ2) ∧ RdC σ2 N B (nxT N B s) ∧ FA σ σ2 := by
  obtain ⟨σ2, a1, a2, a3⟩ := adv_h R
  obtain ⟨-, -, t1, t2, t3, t4, t5⟩ := id a2
  have h4 := tkK_le N B (nxT N B s)
  refine ⟨σ2, ?_, a2, a3⟩
  unfold fX2_readEnd
  simp only [l_0, l_1, l_3]
  rw [a1, Option.bind_some, t3]
  by_cases z : tkK N B (nxT N B s) = 3
  · rw [if_neg (fun y => y (by rw [z])), decide_eq_true z] <;> rfl
  · rw [if_pos (nI_ne (by omega) (by omega) z), decide_eq_false z] <;> rfl
theorem ends_Y (R : RdR μ N B s) (h : tkK N B s = 3) : fX6_ends μ = some μ := by
  unfold fX6_ends
  simp only [l_0, l_1, l_3]
  rw [R.2.2.1.2.2.1, h, if_neg (fun z => z rfl), must_Y, Option.bind_some]
theorem ends_N (R : RdR μ N B s) (h : ¬ tkK N B s = 3) : fX6_ends μ = some (wI μ 75 0 0 (nI s)) := by
  have h4 := tkK_le N B s
  unfold fX6_ends
  simp only [l_0, l_1, l_3]
  rw [R.2.2.1.2.2.1, if_pos (nI_ne (by omega) (by omega) h), must_N R, Option.bind_some]
end
