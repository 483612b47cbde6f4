/-! layer 2: the formatted text -/
theorem loop_in {α β : Type} {step : α → Option (α ⊕ β)} {n : Nat} {a a2 : α} (h : step a = some (.inl a2)) : loop step (n + 1) a = loop step n a2 := by
  simp only [loop, h]
theorem loop_out {α β : Type} {step : α → Option (α ⊕ β)} {n : Nat} {a : α} {b : β} (h : step a = some (.inr b)) : loop step (n + 1) a = some b := by
  simp only [loop, h]
theorem ch_nar {c : Nat} (hc : c < 65536) : vp_nar .char (nI c) = nI c := by
  show (nI c).toUInt32.toUInt16.toUInt32.toInt32 = nI c
  apply Int32.toBitVec_inj.mp
  show BitVec.setWidth 32 (BitVec.setWidth 16 (BitVec.ofNat 32 c)) = BitVec.ofNat 32 c
  apply BitVec.eq_of_toNat_eq
  rw [BitVec.toNat_setWidth, BitVec.toNat_setWidth, BitVec.toNat_ofNat]
  omega
theorem ch_mod {c : Nat} (hc : c < 65536) : ((nI c).toUInt32 % 65536).toInt32 = nI c := by
  apply Int32.toBitVec_inj.mp
  show BitVec.ofNat 32 c % 65536#32 = BitVec.ofNat 32 c
  apply BitVec.eq_of_toNat_eq
  rw [BitVec.toNat_umod, BitVec.toNat_ofNat]
  show c % 2 ^ 32 % 65536 = _
  omega
def I7n (n : Nat) (σ μ : Mem) : Prop := rI σ 4 0 0 = nI n ∧ rI μ 69 0 0 = nI n ∧ ∀ i, i < n → rI σ 5 0 i = rI μ 68 0 i ∧ ∃ c, c < 65536 ∧ rI σ 5 0 i = nI c
def F7 (σ σ2 μ μ2 : Mem) : Prop := FrQ (fun k _ _ => k = 4 ∨ k = 5) σ σ2 ∧ FrQ (fun k _ _ => k = 68 ∨ k = 69) μ μ2
theorem F7_tr {a b c x y z : Mem} (h1 : F7 a b x y) (h2 : F7 b c y z) : F7 a c x z := ⟨Fr_tr h1.1 h2.1, Fr_tr h1.2 h2.2⟩
theorem F7_rfl (a x : Mem) : F7 a a x x := ⟨Fr_rfl a, Fr_rfl x⟩
section
variable {σ μ : Mem} {n : Nat}
theorem say_7 {c : Nat} (hc : c < 65536) (hn : n < 160) (h : I7n n σ μ) : ∃ σ2 μ2, fX5_putSign (nI c) σ = some σ2 ∧ fX6_say (nI c) μ = some μ2 ∧ I7n (n + 1) σ2 μ2 ∧ F7 σ σ2 μ μ2 := by
  obtain ⟨h1, h2, h3⟩ := h
  refine ⟨wI (wI σ 5 0 n (nI c)) 4 0 0 (nI (n + 1)), wI (wI μ 68 0 n (nI c)) 69 0 0 (nI (n + 1)), ?_, ?_, ⟨rI_wI_self, rI_wI_self, fun i hi => ?_⟩, Fr_tr (Fr_wI (Or.inr rfl)) (Fr_wI (Or.inl rfl)), Fr_tr (Fr_wI (Or.inl rfl)) (Fr_wI (Or.inr rfl))⟩
  · unfold fX5_putSign
    simp only [l_1, l_160]
    rw [h1, if_neg (nI_ge (by omega) (by omega)), gd_inb (by omega) (by omega), nI_clamp (by omega), ch_nar hc, rI_wI_ne (by omega), h1, nI_add]
  · unfold fX6_say
    simp only [l_1]
    rw [h2, gd_inb (by omega) (by omega), nI_clamp (by omega), ch_mod hc, ch_nar hc, rI_wI_ne (by omega), h2, nI_add]
  · by_cases z : i = n
    · rw [z, rI_wI_ne (by omega), rI_wI_self, rI_wI_ne (by omega), rI_wI_self]
      exact ⟨rfl, c, hc, rfl⟩
    · rw [rI_wI_ne (by omega), rI_wI_ne (by omega), rI_wI_ne (by omega), rI_wI_ne (by omega)]
      exact h3 i (by omega)
theorem dg_c : ∀ v, v < 1000 → (((48 : Int32) + (nI v - nI v / (10 : Int32) * (10 : Int32))).toUInt32 % 65536).toInt32 = nI (48 + v % 10) ∧ (((48 : Int32) + ((nI v / (10 : Int32)) - (nI v / (10 : Int32)) / (10 : Int32) * (10 : Int32))).toUInt32 % 65536).toInt32 = nI (48 + v / 10 % 10) ∧ (((48 : Int32) + (nI v / (100 : Int32))).toUInt32 % 65536).toInt32 = nI (48 + v / 100) := by decide +kernel
theorem dg_m : ∀ v, v < 1000 → ((48 : Int32) + ((nI v / nI 1) - (nI v / nI 1) / (10 : Int32) * (10 : Int32))) = nI (48 + v % 10) ∧ ((48 : Int32) + ((nI v / nI 10) - (nI v / nI 10) / (10 : Int32) * (10 : Int32))) = nI (48 + v / 10 % 10) ∧ ((48 : Int32) + ((nI v / nI 100) - (nI v / nI 100) / (10 : Int32) * (10 : Int32))) = nI (48 + v / 100 % 10) := by decide +kernel
theorem dv_m : ∀ v, v < 1000 → loop (stX6_sayNumber_2 (nI v)) 5000 (1 : Int32) = some (nI (if v < 10 then 1 else if v < 100 then 10 else 100)) := by decide +kernel
def lnN (v : Nat) : Nat := if v < 10 then 1 else if v < 100 then 2 else 3
theorem num_7 {v : Nat} (hv : v < 1000) (hn : n + lnN v ≤ 160) (h : I7n n σ μ) : ∃ σ2 μ2, fX5_putNumber (nI v) σ = some σ2 ∧ fX6_sayNumber (nI v) μ = some μ2 ∧ I7n (n + lnN v) σ2 μ2 ∧ F7 σ σ2 μ μ2 := by
  obtain ⟨c1, c2, c3⟩ := dg_c v hv
  obtain ⟨m1, m2, m3⟩ := dg_m v hv
  have hd := dv_m v hv
  have st : ∀ d, 0 < d → d < 2 ^ 20 → ∀ m, stX6_sayNumber_18 (nI v) (nI d, m) = (fX6_say ((48 : Int32) + ((nI v / nI d) - (nI v / nI d) / (10 : Int32) * (10 : Int32))) m).bind fun q1 => (some (.inl (nI d / (10 : Int32), q1))) := by
    intro d h0 h1 m
    unfold stX6_sayNumber_18
    try dsimp only
    rw [if_neg (show ¬ nI d ≤ 0 from nI_ge (b := d) (a := 0) (by omega) (by omega)), gd_pos (show ¬ nI d = 0 from nI_ne (b := 0) (by omega) (by omega) (by omega))]
  have e0 : ∀ m, stX6_sayNumber_18 (nI v) (nI 0, m) = some (.inr m) := fun m => rfl
  unfold fX5_putNumber fX6_sayNumber jX5_putNumber_18 jX5_putNumber_39
  rw [hd, Option.bind_some, c1, c2, c3]
  simp only [l_10, l_100]
  unfold lnN at hn ⊢
  by_cases q1 : v < 10
  · rw [if_pos q1] at hn ⊢
    rw [if_pos q1]
    obtain ⟨s1, r1, a1, b1', I1', G1⟩ := say_7 (c := 48 + v % 10) (by omega) (by omega) h
    refine ⟨s1, r1, ?_, ?_, I1', G1⟩
    · rw [if_pos (nI_lt (by omega) (by omega)), if_pos (nI_lt (by omega) (by omega)), a1, Option.bind_some]
    · rw [loop_in (n := 4999) (a2 := (nI 0, r1)) (by rw [st 1 (by omega) (by omega), m1, b1', Option.bind_some] <;> rfl), loop_out (n := 4998) (e0 r1), Option.bind_some]
  · rw [if_neg q1] at hn ⊢
    rw [if_neg q1]
    by_cases q2 : v < 100
    · rw [if_pos q2] at hn ⊢
      rw [if_pos q2]
      obtain ⟨s1, r1, a1, b1', I1', G1⟩ := say_7 (c := 48 + v / 10 % 10) (by omega) (by omega) h
      obtain ⟨s2, r2, a2, b2, I2', G2⟩ := say_7 (c := 48 + v % 10) (by omega) (by omega) I1'
      refine ⟨s2, r2, ?_, ?_, I2', F7_tr G1 G2⟩
      · rw [if_pos (nI_lt (by omega) (by omega)), if_neg (nI_nlt (by omega) (by omega)), a1, Option.bind_some, a2, Option.bind_some]
      · rw [loop_in (n := 4999) (a2 := (nI 1, r1)) (by rw [st 10 (by omega) (by omega), m2, b1', Option.bind_some] <;> rfl), loop_in (n := 4998) (a2 := (nI 0, r2)) (by rw [st 1 (by omega) (by omega), m1, b2, Option.bind_some] <;> rfl), loop_out (n := 4997) (e0 r2), Option.bind_some]
    · rw [if_neg q2] at hn ⊢
      rw [if_neg q2]
      obtain ⟨s1, r1, a1, b1', I1', G1⟩ := say_7 (c := 48 + v / 100) (by omega) (by omega) h
      obtain ⟨s2, r2, a2, b2, I2', G2⟩ := say_7 (c := 48 + v / 10 % 10) (by omega) (by omega) I1'
      obtain ⟨s3, r3, a3, b3, I3', G3⟩ := say_7 (c := 48 + v % 10) (by omega) (by omega) I2'
      rw [show v / 100 % 10 = v / 100 by omega] at m3
      refine ⟨s3, r3, ?_, ?_, I3', F7_tr G1 (F7_tr G2 G3)⟩
      · rw [if_neg (nI_nlt (by omega) (by omega)), a1, Option.bind_some, if_neg (nI_nlt (by omega) (by omega)), a2, Option.bind_some, a3, Option.bind_some]
      · rw [loop_in (n := 4999) (a2 := (nI 10, r1)) (by rw [st 100 (by omega) (by omega), m3, b1', Option.bind_some] <;> rfl), loop_in (n := 4998) (a2 := (nI 1, r2)) (by rw [st 10 (by omega) (by omega), m2, b2, Option.bind_some] <;> rfl), loop_in (n := 4997) (a2 := (nI 0, r3)) (by rw [st 1 (by omega) (by omega), m1, b3, Option.bind_some] <;> rfl), loop_out (n := 4996) (e0 r3), Option.bind_some]
theorem AN_formattedCharacter (h7 : I7 σ μ) (p : Int32) : ANQ (fX5_formattedCharacter p σ) (fX6_formattedCharacter p μ) [(3, 1)] (QTQ μ) := by
  obtain ⟨-, n, n1, n2, n3, n4⟩ := h7
  have e69 : rI (wI μ 60 0 0 (nI 0)) 69 0 0 = nI n := by rw [rI_wI_ne (by omega)]; exact n3
  have g0 : vp_nar .char (nI 0) = nI 0 := ch_nar (c := 0) (by omega)
  rcases ix_em p n with ⟨k, hk, rfl⟩ | q
  · obtain ⟨k1, c, c1, c2⟩ := n4 k hk
    refine AN_ok (nI c) ?_ ?_
    · unfold fX5_formattedCharacter
      rw [if_neg (show ¬ nI k < 0 from nI_nlt (b := 0) (by omega) (by omega)), n2, if_pos (nI_lt hk (by omega)), gd_inb (by omega) (by omega), nI_clamp (by omega), c2, gd_pos (ch_nar c1)]
    · unfold fX6_formattedCharacter
      simp only [l_0, l_1]
      rw [e69, isIn_Y hk (by omega), Option.bind_some, if_pos (by decide), gd_inb (by omega) (by omega), nI_clamp (by omega), rI_wI_ne (by omega), ← k1, c2, gd_pos (ch_nar c1)]
      exact ⟨_, rfl, rfl, rI_wI_self, QT_60⟩
  · refine AN_no 3 1 (by decide) ?_ ?_
    · unfold fX5_formattedCharacter jX5_formattedCharacter_12
      by_cases z : p < 0
      · rw [if_pos z]
      · rw [if_neg z, n2]
        rcases ix_no (by omega) q with w | w
        · exact absurd w z
        · rw [if_neg w]
    · unfold fX6_formattedCharacter
      simp only [l_0, l_1]
      rw [e69, isIn_N (by omega) q, Option.bind_some, if_neg (by decide), gd_pos g0]
      exact ⟨_, rfl, rI_wI_self, QT_tr QT_60 QT_60⟩
end
