/-! layer 2: the reference over its row: what reads it -/
theorem b1_t : b1 true = 1 := rfl
theorem b1_f : b1 false = 0 := rfl
theorem b1_le (p : Bool) : b1 p ≤ 1 := by cases p <;> decide
theorem b1_z {p : Bool} : nI (b1 p) = nI 0 ↔ p = false := by cases p <;> decide
theorem b1_o {p : Bool} : nI (b1 p) = nI 1 ↔ p = true := by cases p <;> decide
theorem gd_b1 {α : Type} {p : Bool} {k : Option α} : gd (nI (b1 p) = nI 0 ∨ nI (b1 p) = nI 1) k = k := gd_pos (by cases p <;> decide)
theorem gd_01 {α : Type} {n : Nat} {k : Option α} (h : n ≤ 1) : gd (nI n = nI 0 ∨ nI n = nI 1) k = k := gd_pos (by
  have : n = 0 ∨ n = 1 := by omega
  rcases this with rfl | rfl <;> decide)
theorem gd_inb {α : Type} {i n : Nat} {k : Option α} (h : i < n) (hn : n < 2 ^ 31) : gd (inb (nI i) n) k = k := gd_pos (inb_n h hn)
def Cur (μ : Mem) (s : Nat) (ρ : RwQ) : Prop := s < 2 ∧ rI μ 62 0 0 = nI (208 * s) ∧ ∀ k, k < 208 → rI μ 61 0 (208 * s + k) = nI (ρ k)
/-- what changed lies in K, and is an int -/
def FrQ (K : Nat → Nat → Nat → Prop) (σ σ2 : Mem) : Prop := (∀ k j r, ¬ K k j r → rI σ2 k j r = rI σ k j r) ∧ σ2.2 = σ.2
theorem Fr_rfl {K : Nat → Nat → Nat → Prop} (σ : Mem) : FrQ K σ σ := ⟨fun _ _ _ _ => rfl, rfl⟩
theorem Fr_tr {K : Nat → Nat → Nat → Prop} {a b c : Mem} (h1 : FrQ K a b) (h2 : FrQ K b c) : FrQ K a c := ⟨fun k j r h => (h2.1 k j r h).trans (h1.1 k j r h), h2.2.trans h1.2⟩
theorem Fr_mono {K K2 : Nat → Nat → Nat → Prop} {a b : Mem} (h : FrQ K a b) (hk : ∀ k j r, K k j r → K2 k j r) : FrQ K2 a b := ⟨fun k j r q => h.1 k j r (fun w => q (hk k j r w)), h.2⟩
theorem Fr_wI {K : Nat → Nat → Nat → Prop} {σ : Mem} {k j r : Nat} {v : Int32} (h : K k j r) : FrQ K σ (wI σ k j r v) := ⟨fun k2 j2 r2 q => by
  rw [rI_wI, if_neg]
  rintro ⟨rfl, rfl, rfl⟩
  exact q h, rfl⟩
theorem Fr_J {K : Nat → Nat → Nat → Prop} {a b : Mem} (h : FrQ K a b) (k j r : Nat) : rJ b k j r = rJ a k j r := by
  show b.2.1 k j r = a.2.1 k j r
  rw [h.2]
theorem Fr_D {K : Nat → Nat → Nat → Prop} {a b : Mem} (h : FrQ K a b) (k j r : Nat) : rD b k j r = rD a k j r := by
  show b.2.2.1 k j r = a.2.2.1 k j r
  rw [h.2]
theorem Fr_P {K : Nat → Nat → Nat → Prop} {a b : Mem} (h : FrQ K a b) (k : Nat) : rP b k = rP a k := by
  show b.2.2.2 k = a.2.2.2 k
  rw [h.2]
/-- the cells of row s -/
def KRQ (s : Nat) (k j r : Nat) : Prop := k = 61 ∧ j = 0 ∧ 208 * s ≤ r ∧ r < 208 * s + 208
theorem Cur_fr {K : Nat → Nat → Nat → Prop} {μ μ2 : Mem} {s : Nat} {ρ : RwQ} (C : Cur μ s ρ) (h : FrQ K μ μ2) (h1 : ¬ K 62 0 0) (h2 : ∀ r, 208 * s ≤ r → r < 208 * s + 208 → ¬ K 61 0 r) : Cur μ2 s ρ :=
  ⟨C.1, by rw [h.1 _ _ _ h1]; exact C.2.1, fun k hk => by rw [h.1 _ _ _ (h2 _ (by omega) (by omega))]; exact C.2.2 k hk⟩
theorem Cur_wI {μ : Mem} {s : Nat} {ρ : RwQ} (C : Cur μ s ρ) {k j r : Nat} {v : Int32} (h1 : k ≠ 61) (h2 : k ≠ 62) : Cur (wI μ k j r v) s ρ :=
  Cur_fr C (K := fun a _ _ => a = k) (Fr_wI rfl) (fun q => h2 q.symm) (fun _ _ _ q => h1 q.symm)
section
variable {μ : Mem} {s : Nat} {ρ : RwQ}
theorem get_s (C : Cur μ s ρ) {k : Nat} (hk : k < 208) : fX6_get (nI k) μ = some (nI (ρ k)) := by
  obtain ⟨h1, h2, h3⟩ := C
  unfold fX6_get
  rw [h2, nI_add, gd_inb (by omega) (by omega), nI_clamp (by omega), h3 k hk]
theorem set_s (C : Cur μ s ρ) {k : Nat} (hk : k < 208) (v : Int32) : fX6_set (nI k) v μ = some (wI μ 61 0 (208 * s + k) v) := by
  obtain ⟨h1, h2, h3⟩ := C
  unfold fX6_set
  rw [h2, nI_add, gd_inb (by omega) (by omega), nI_clamp (by omega)]
theorem set_C (C : Cur μ s ρ) {k : Nat} (hk : k < 208) (v : Nat) : Cur (wI μ 61 0 (208 * s + k) (nI v)) s (upQ ρ k v) := by
  obtain ⟨h1, h2, h3⟩ := C
  refine ⟨h1, h2, fun i hi => ?_⟩
  rw [rI_wI]
  by_cases h : i = k
  · subst h; rw [if_pos ⟨rfl, rfl, rfl⟩, up_s]
  · rw [if_neg (by omega), up_n h, h3 i hi]
theorem set_F (C : Cur μ s ρ) {k : Nat} (hk : k < 208) (v : Int32) : FrQ (KRQ s) μ (wI μ 61 0 (208 * s + k) v) := Fr_wI ⟨rfl, rfl, by omega, by omega⟩
theorem roomIs_s (C : Cur μ s ρ) {r w : Nat} (hr : r < 8) (hw : w < 4) : fX6_roomIs (nI r) (nI w) μ = some (nI (rmv ρ r w)) := by
  unfold fX6_roomIs
  simp only [l_5, l_4, nI_add, pk_mul]
  rw [get_s C (by omega)] <;> rfl
theorem of_s (C : Cur μ s ρ) {b w : Nat} (hb : b < 17) (hw : w < 9) : fX6_of (nI b) (nI w) μ = some (nI (bkv ρ b w)) := by
  unfold fX6_of
  simp only [l_38, l_9, nI_add, pk_mul]
  rw [get_s C (by omega)] <;> rfl
theorem lay_s (C : Cur μ s ρ) {b w : Nat} (hb : b < 17) (hw : w < 9) (v : Int32) : fX6_lay (nI b) (nI w) v μ = some (wI μ 61 0 (208 * s + (38 + 9 * b + w)) v) := by
  unfold fX6_lay
  simp only [l_38, l_9, nI_add, pk_mul]
  rw [set_s C (by omega)] <;> rfl
theorem lay_C (C : Cur μ s ρ) {b w : Nat} (hb : b < 17) (hw : w < 9) (v : Nat) : Cur (wI μ 61 0 (208 * s + (38 + 9 * b + w)) (nI v)) s (setBQ ρ b w v) := set_C C (by omega) v
theorem lay_F (C : Cur μ s ρ) {b w : Nat} (hb : b < 17) (hw : w < 9) (v : Int32) : FrQ (KRQ s) μ (wI μ 61 0 (208 * s + (38 + 9 * b + w)) v) := set_F C (by omega) v
theorem persons_s (C : Cur μ s ρ) {b : Nat} (hb : b < 17) : fX6_persons (nI b) μ = some (nI (prs ρ b)) := by
  unfold fX6_persons
  simp only [l_2, l_3]
  rw [of_s C hb (by omega), of_s C hb (by omega)]
  simp only [Option.bind_some, nI_add] <;> rfl
end
theorem isIn_s {a b c : Nat} (ha : a < 2 ^ 31) (hb : b < 2 ^ 31) (hc : c < 2 ^ 31) : fX6_isIn (nI a) (nI b) (nI c) = some (nI (b1 (decide (b ≤ a ∧ a ≤ c)))) := by
  unfold fX6_isIn jX6_isIn_14
  simp (disch := omega) only [nI_ltI]
  by_cases h1 : a < b
  · rw [if_pos h1, decide_eq_false (by omega)] <;> rfl
  · by_cases h2 : c < a
    · rw [if_neg h1, if_pos h2, decide_eq_false (by omega)] <;> rfl
    · rw [if_neg h1, if_neg h2, decide_eq_true (by omega)] <;> rfl
theorem nI_pred_toInt {n : Nat} (hn : n < 2 ^ 30) : (nI n - nI 1).toInt = (n : Int) - 1 := pk_sub_toInt hn (by omega)
theorem isIn_Y {k n : Nat} (hk : k < n) (hn : n < 2 ^ 30) : fX6_isIn (nI k) (nI 0) (nI n - nI 1) = some (nI 1) := by
  rw [nI_sub1 (by omega), isIn_s (by omega) (by omega) (by omega), decide_eq_true (by omega)] <;> rfl
theorem isIn_N {p : Int32} {n : Nat} (hn : n < 2 ^ 30) (h : ¬ ∃ k, k < n ∧ p = nI k) : fX6_isIn p (nI 0) (nI n - nI 1) = some (nI 0) := by
  unfold fX6_isIn jX6_isIn_14
  by_cases h1 : p < nI 0
  · rw [if_pos h1] <;> rfl
  · rw [if_neg h1, if_pos]
    · rfl
    · rw [Int32.lt_iff_toInt_lt, nI_pred_toInt hn]
      rcases pk_ix p (n := n) (by omega) with q | q | q
      · exact absurd q h1
      · rw [Int32.le_iff_toInt_le, nI_toInt (by omega)] at q; omega
      · exact absurd q h
/-- a number between lo and hi, or not -/
theorem isIn_rY {k lo hi : Nat} (h1 : lo ≤ k) (h2 : k ≤ hi) (hn : hi < 2 ^ 31) : fX6_isIn (nI k) (nI lo) (nI hi) = some (nI 1) := by
  rw [isIn_s (by omega) (by omega) (by omega), decide_eq_true (by omega)] <;> rfl
theorem isIn_rN {p : Int32} {lo hi : Nat} (hl : lo < 2 ^ 31) (hn : hi < 2 ^ 31) (h : ¬ ∃ k, (lo ≤ k ∧ k ≤ hi) ∧ p = nI k) : fX6_isIn p (nI lo) (nI hi) = some (nI 0) := by
  unfold fX6_isIn jX6_isIn_14
  by_cases h1 : p < nI lo
  · rw [if_pos h1] <;> rfl
  · rw [if_neg h1, if_pos]
    · rfl
    · rw [Int32.lt_iff_toInt_lt, nI_toInt hl] at h1
      rw [Int32.lt_iff_toInt_lt, nI_toInt hn]
      rcases Int.lt_or_le (hi : Int) p.toInt with q | q
      · exact q
      · refine absurd ⟨p.toInt.toNat, ⟨by omega, by omega⟩, ?_⟩ h
        apply Int32.toInt_inj.mp
        rw [nI_toInt (by omega)]; omega
section
variable {μ : Mem} {s : Nat} {ρ : RwQ}
theorem isRoom_Y (C : Cur μ s ρ) {r : Nat} (hr : r < ρ 4) (h8 : ρ 4 ≤ 8) : fX6_isRoom (nI r) μ = some (nI 1) := by
  unfold fX6_isRoom
  simp (disch := omega) only [l_0, l_1, l_2, l_3, l_4, l_5, l_6, l_7, l_8, l_9, l_10, l_11, l_12, l_16, l_17, l_20, l_24, l_29, l_30, l_31, l_32, l_35, l_37, l_38, l_43, l_44, l_47, l_48, l_50, l_56, l_57, l_59, l_60, l_63, l_80, l_96, l_97, l_98, l_99, l_100, l_101, l_102, l_103, l_104, l_105, l_107, l_108, l_109, l_110, l_111, l_114, l_115, l_116, l_118, l_119, l_120, l_122, l_160, l_191, l_192, l_193, l_200, l_205, l_208, l_209, l_210, l_211, l_255, l_300, l_700, l_2400, l_252645135, l_858993459, l_1431655765, nI_add, pk_mul, nI_leI, nI_ltI, nI_eq, nI_clamp, inb_nI, Option.bind_some, ↓reduceIte, not_false_eq_true, not_true_eq_false, get_s C, isIn_Y hr]
  exact gd_pos (by decide)
theorem isRoom_N (C : Cur μ s ρ) {p : Int32} (h8 : ρ 4 ≤ 8) (h : ¬ ∃ r, r < ρ 4 ∧ p = nI r) : fX6_isRoom p μ = some (nI 0) := by
  unfold fX6_isRoom
  simp only [l_0, l_1, l_4]
  rw [get_s C (by omega), Option.bind_some, isIn_N (by omega) h]
  exact gd_pos (by decide)
theorem isBooking_Y (C : Cur μ s ρ) {b : Nat} (hb : b < ρ 37) (h17 : ρ 37 ≤ 17) : fX6_isBooking (nI b) μ = some (nI 1) := by
  unfold fX6_isBooking
  simp only [l_0, l_1, l_37]
  rw [get_s C (by omega), Option.bind_some, isIn_Y hb (by omega)]
  exact gd_pos (by decide)
theorem isBooking_N (C : Cur μ s ρ) {p : Int32} (h17 : ρ 37 ≤ 17) (h : ¬ ∃ b, b < ρ 37 ∧ p = nI b) : fX6_isBooking p μ = some (nI 0) := by
  unfold fX6_isBooking
  simp only [l_0, l_1, l_37]
  rw [get_s C (by omega), Option.bind_some, isIn_N (by omega) h]
  exact gd_pos (by decide)
theorem staysIn_s (C : Cur μ s ρ) {b n : Nat} (hb : b < 17) (hw : WFb ρ b) (hn : n < 2 ^ 30) : fX6_staysIn (nI b) (nI n) μ = some (nI (b1 (staysQ ρ b n))) := by
  obtain ⟨w1, w2, -⟩ := hw
  unfold fX6_staysIn
  simp (disch := omega) only [l_0, l_1, l_2, l_3, l_4, l_5, l_6, l_7, l_8, l_9, l_10, l_11, l_12, l_16, l_17, l_20, l_24, l_29, l_30, l_31, l_32, l_35, l_37, l_38, l_43, l_44, l_47, l_48, l_50, l_56, l_57, l_59, l_60, l_63, l_80, l_96, l_97, l_98, l_99, l_100, l_101, l_102, l_103, l_104, l_105, l_107, l_108, l_109, l_110, l_111, l_114, l_115, l_116, l_118, l_119, l_120, l_122, l_160, l_191, l_192, l_193, l_200, l_205, l_208, l_209, l_210, l_211, l_255, l_300, l_700, l_2400, l_252645135, l_858993459, l_1431655765, nI_add, pk_mul, nI_leI, nI_ltI, nI_eq, nI_clamp, inb_nI, Option.bind_some, ↓reduceIte, not_false_eq_true, not_true_eq_false, of_s C hb]
  rw [nI_sub1 (by omega), isIn_s (by omega) (by omega) (by omega)]
  simp only [Option.bind_some]
  rw [gd_b1]
  unfold staysQ
  rw [decide_eq_decide.mpr]
  omega
theorem allBeds_s (C : Cur μ s ρ) (hW : WF ρ) : fX6_allBeds μ = some (nI (allB ρ)) := by
  have h8 := hW.1
  have e : loop (stX6_allBeds_4 μ) 5000 ((0 : Int32), (0 : Int32)) = some (nI (allB ρ)) := by
    refine loop_st (ρ 4) (fun k => (nI (sumNQ (fun r => rmv ρ r 1) k), nI k)) (by omega) rfl ?_ ?_
    · intro k hk
      unfold stX6_allBeds_4
      simp (disch := omega) only [l_0, l_1, l_2, l_3, l_4, l_5, l_6, l_7, l_8, l_9, l_10, l_11, l_12, l_16, l_17, l_20, l_24, l_29, l_30, l_31, l_32, l_35, l_37, l_38, l_43, l_44, l_47, l_48, l_50, l_56, l_57, l_59, l_60, l_63, l_80, l_96, l_97, l_98, l_99, l_100, l_101, l_102, l_103, l_104, l_105, l_107, l_108, l_109, l_110, l_111, l_114, l_115, l_116, l_118, l_119, l_120, l_122, l_160, l_191, l_192, l_193, l_200, l_205, l_208, l_209, l_210, l_211, l_255, l_300, l_700, l_2400, l_252645135, l_858993459, l_1431655765, nI_add, pk_mul, nI_leI, nI_ltI, nI_eq, nI_clamp, inb_nI, Option.bind_some, ↓reduceIte, not_false_eq_true, not_true_eq_false, get_s C, roomIs_s C]
      rw [if_neg (by omega)] <;> rfl
    · unfold stX6_allBeds_4
      simp (disch := omega) only [l_0, l_1, l_2, l_3, l_4, l_5, l_6, l_7, l_8, l_9, l_10, l_11, l_12, l_16, l_17, l_20, l_24, l_29, l_30, l_31, l_32, l_35, l_37, l_38, l_43, l_44, l_47, l_48, l_50, l_56, l_57, l_59, l_60, l_63, l_80, l_96, l_97, l_98, l_99, l_100, l_101, l_102, l_103, l_104, l_105, l_107, l_108, l_109, l_110, l_111, l_114, l_115, l_116, l_118, l_119, l_120, l_122, l_160, l_191, l_192, l_193, l_200, l_205, l_208, l_209, l_210, l_211, l_255, l_300, l_700, l_2400, l_252645135, l_858993459, l_1431655765, nI_add, pk_mul, nI_leI, nI_ltI, nI_eq, nI_clamp, inb_nI, Option.bind_some, ↓reduceIte, not_false_eq_true, not_true_eq_false, get_s C, roomIs_s C]
      rw [if_pos (by omega)] <;> rfl
  unfold fX6_allBeds
  rw [e] <;> rfl
theorem bookedIn_s (C : Cur μ s ρ) (hW : WF ρ) {n : Nat} (hn : n < 2 ^ 30) : fX6_bookedIn (nI n) μ = some (nI (bkd ρ n)) := by
  have h17 := hW.2.1
  have e : loop (stX6_bookedIn_4 μ (nI n)) 5000 ((0 : Int32), (0 : Int32)) = some (nI (bkd ρ n)) := by
    refine loop_st (ρ 37) (fun k => (nI (sumNQ (bkdT ρ n) k), nI k)) (by omega) rfl ?_ ?_
    · intro k hk
      have hw := hW.2.2.2.2 k hk
      have h8 : bkv ρ k 8 ≤ 2 := hw.2.2.2.2.2.2.2
      unfold stX6_bookedIn_4
      simp (disch := omega) only [l_0, l_1, l_2, l_3, l_4, l_5, l_6, l_7, l_8, l_9, l_10, l_11, l_12, l_16, l_17, l_20, l_24, l_29, l_30, l_31, l_32, l_35, l_37, l_38, l_43, l_44, l_47, l_48, l_50, l_56, l_57, l_59, l_60, l_63, l_80, l_96, l_97, l_98, l_99, l_100, l_101, l_102, l_103, l_104, l_105, l_107, l_108, l_109, l_110, l_111, l_114, l_115, l_116, l_118, l_119, l_120, l_122, l_160, l_191, l_192, l_193, l_200, l_205, l_208, l_209, l_210, l_211, l_255, l_300, l_700, l_2400, l_252645135, l_858993459, l_1431655765, nI_add, pk_mul, nI_leI, nI_ltI, nI_eq, nI_clamp, inb_nI, Option.bind_some, ↓reduceIte, not_false_eq_true, not_true_eq_false, get_s C, of_s C, staysIn_s C _ hw, persons_s C, jX6_bookedIn_43, jX6_bookedIn_44, b1_z]
      rw [if_neg (by omega)]
      by_cases q8 : bkv ρ k 8 = 1
      · by_cases qs : staysQ ρ k n = true
        · rw [if_neg (fun q => q q8), if_neg (by rw [qs]; decide)]
          show _ = some (Sum.inl (nI (sumNQ (bkdT ρ n) k + bkdT ρ n k), nI (k + 1)))
          rw [show bkdT ρ n k = prs ρ k from if_pos ⟨q8, qs⟩]
        · rw [if_neg (fun q => q q8), if_pos (by simpa using qs)]
          show _ = some (Sum.inl (nI (sumNQ (bkdT ρ n) k + bkdT ρ n k), nI (k + 1)))
          rw [show bkdT ρ n k = 0 from if_neg (fun q => qs q.2)]
      · rw [if_pos q8]
        show _ = some (Sum.inl (nI (sumNQ (bkdT ρ n) k + bkdT ρ n k), nI (k + 1)))
        rw [show bkdT ρ n k = 0 from if_neg (fun q => q8 q.1)]
    · unfold stX6_bookedIn_4
      simp (disch := omega) only [l_0, l_1, l_2, l_3, l_4, l_5, l_6, l_7, l_8, l_9, l_10, l_11, l_12, l_16, l_17, l_20, l_24, l_29, l_30, l_31, l_32, l_35, l_37, l_38, l_43, l_44, l_47, l_48, l_50, l_56, l_57, l_59, l_60, l_63, l_80, l_96, l_97, l_98, l_99, l_100, l_101, l_102, l_103, l_104, l_105, l_107, l_108, l_109, l_110, l_111, l_114, l_115, l_116, l_118, l_119, l_120, l_122, l_160, l_191, l_192, l_193, l_200, l_205, l_208, l_209, l_210, l_211, l_255, l_300, l_700, l_2400, l_252645135, l_858993459, l_1431655765, nI_add, pk_mul, nI_leI, nI_ltI, nI_eq, nI_clamp, inb_nI, Option.bind_some, ↓reduceIte, not_false_eq_true, not_true_eq_false, get_s C]
      rw [if_pos (by omega)] <;> rfl
  unfold fX6_bookedIn
  rw [e] <;> rfl
end
