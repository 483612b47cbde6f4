/-! layer 2: chance, risk, expected walks -/
section
variable {σ μ : Mem} {ρ : RwQ} {s K n : Nat} {f : Nat → UInt64} {p : UInt64}
theorem addChances_s (hf : ∀ k, k < 205 → rD μ 1 0 k = f k) (hF : ∀ k, FC (1021 + K) (f k)) (hK : K ≤ 900) {c : Nat} (hc : c ≤ 100) (hn : n ≤ 12) : OkQ (loop (stX6_laysChances_95 (nI c) (nI n)) 5000 (mI 205, μ)) (fun μ2 => (∀ k, k < 205 → rD μ2 1 0 k = odU f n (ppN c) k) ∧ Dn 1 μ μ2) := by
  obtain ⟨hp, hq⟩ := ppN_FC hc
  refine loop_ok 205 (fun k q => q.1 = mI (205 - k) ∧ (∀ i, i < 205 → rD q.2 1 0 i = if 205 - k ≤ i then odU f n (ppN c) i else f i) ∧ Dn 1 μ q.2) (by omega) ⟨rfl, fun i hi => by rw [if_neg (by omega)]; exact hf i hi, Dn_rfl 1 μ⟩ ?_
  rintro k ⟨q1, q2⟩ hk ⟨e1, e2, e3⟩
  try dsimp only at e1 e2 e3
  subst e1
  unfold stX6_laysChances_95
  by_cases hk2 : k = 205
  · rw [hk2, if_pos (show mI (205 - 205) < 0 from by decide +kernel)]
    refine ⟨_, rfl, fun i hi => ?_, e3⟩
    rw [e2 i hi, if_pos (by omega)]
  · obtain ⟨v, hv⟩ : ∃ v, 205 - k = v + 1 := ⟨204 - k, by omega⟩
    rw [hv]
    try dsimp only
    rw [if_neg (fun z => (mI_lt0 (v := v) (by omega)).mp z), mI_s]
    obtain ⟨g1, g2, g3⟩ := odU_FC (n := n) hF hp hq hK v
    have ev : rD q2 1 0 v = f v := by rw [e2 v (by omega), if_neg (by omega)]
    have fin : OkQ (jX6_laysChances_138 (nI c) (nI v, q2) (if v < n then 0 else f (v - n))) (fun r => Sum.elim (fun a2 => k < 205 ∧ a2.1 = mI (205 - (k + 1)) ∧ (∀ i, i < 205 → rD a2.2 1 0 i = if 205 - (k + 1) ≤ i then odU f n (ppN c) i else f i) ∧ Dn 1 μ a2.2) (fun μ2 => (∀ k, k < 205 → rD μ2 1 0 k = odU f n (ppN c) k) ∧ Dn 1 μ μ2) r) := by
      have g1' : FC (1021 + (K + 5)) (FP.dadd (FP.dmul (f v) (FP.dsub FP.dconst1 (ppN c))) (FP.dmul (if v < n then 0 else f (v - n)) (ppN c))) := g1
      unfold jX6_laysChances_138
      try dsimp only
      rw [show FP.ddiv (FP.i2d (nI c)) (4636737291354636288 : UInt64) = ppN c from rfl, nI_clamp (by omega), ev, gd_pos (FC_n64 g3), gd_pos (FC_n64 g1')]
      refine ⟨_, rfl, by omega, by rw [show 205 - (k + 1) = v by omega] <;> rfl, fun i hi => ?_, Dn_tr e3 Dn_wD⟩
      rw [rD_wD]
      by_cases z : i = v
      · rw [if_pos ⟨rfl, rfl, z⟩, z, show (if 205 - (k + 1) ≤ v then odU f n (ppN c) v else f v) = odU f n (ppN c) v from if_pos (by omega)] <;> rfl
      · rw [if_neg (fun y => z y.2.2), e2 i hi]
        by_cases z2 : 205 - k ≤ i
        · rw [if_pos z2, if_pos (by omega)]
        · rw [if_neg z2, if_neg (by omega)]
    rw [show FP.ddiv (FP.i2d (nI c)) (4636737291354636288 : UInt64) = ppN c from rfl, gd_inb (by omega) (by omega), nI_clamp (by omega), ev, gd_pos (FC_n64 hq), gd_pos (FC_n64 g2)]
    by_cases hvn : v < n
    · rw [if_neg (nI_ge (by omega) (by omega))]
      rw [if_pos hvn] at fin
      exact fin
    · rw [if_pos (nI_le (by omega) (by omega)), pk_sub (by omega), gd_inb (by omega) (by omega), nI_clamp (by omega), e2 (v - n) (by omega), if_neg (by omega)]
      rw [if_neg hvn] at fin
      exact fin
theorem laysChances_s (C : Cur μ s ρ) (hW : WF ρ) (h16 : ρ 37 ≤ 16) {n : Nat} (hn : n < 30) : OkQ (fX6_laysChances (nI n) μ) (fun μ2 => (∀ k, k < 205 → rD μ2 1 0 k = od ρ n (ρ 37) k) ∧ Dn 1 μ μ2) := by
  have hl1 : OkQ (loop stX6_laysChances_2 5000 (nI 0, μ)) (fun μ2 => (∀ k, k < 205 → rD μ2 1 0 k = od ρ n 0 k) ∧ Dn 1 μ μ2) := by
    refine loop_ok 205 (fun k q => q.1 = nI k ∧ (∀ i, i < k → rD q.2 1 0 i = od ρ n 0 i) ∧ Dn 1 μ q.2) (by omega) ⟨rfl, fun i hi => absurd hi (Nat.not_lt_zero _), Dn_rfl 1 μ⟩ ?_
    rintro k ⟨q1, q2⟩ hk ⟨e1, e2, e3⟩
    try dsimp only at e1 e2 e3
    subst e1
    have fin : k < 205 → OkQ (jX6_laysChances_25 (nI k, q2) (od ρ n 0 k)) (fun r => Sum.elim (fun a2 => k < 205 ∧ a2.1 = nI (k + 1) ∧ (∀ i, i < k + 1 → rD a2.2 1 0 i = od ρ n 0 i) ∧ Dn 1 μ a2.2) (fun μ2 => (∀ k, k < 205 → rD μ2 1 0 k = od ρ n 0 k) ∧ Dn 1 μ μ2) r) := by
      intro hk2
      unfold jX6_laysChances_25
      simp only [l_1]
      rw [gd_inb (by omega) (by omega), nI_clamp (by omega)]
      refine ⟨_, rfl, by omega, nI_add _ _, fun i hi => ?_, Dn_tr e3 Dn_wD⟩
      show rD (wD q2 1 0 k (od ρ n 0 k)) 1 0 i = _
      rw [rD_wD]
      by_cases z : i = k
      · rw [if_pos ⟨rfl, rfl, z⟩, z]
      · rw [if_neg (fun y => z y.2.2)]; exact e2 i (by omega)
    unfold stX6_laysChances_2
    simp only [l_0, l_205]
    by_cases hk2 : k = 205
    · rw [if_pos (nI_le (by omega) (by omega))]
      exact ⟨_, rfl, fun i hi => e2 i (by omega), e3⟩
    · rw [if_neg (nI_ge (by omega) (by omega))]; simp (disch := omega) only [nI_eq]
      have fin := fin (by omega)
      by_cases z : k = 0
      · rw [if_neg (fun y => y z)]
        rw [show od ρ n 0 k = FP.dconst1 from if_pos z] at fin
        exact fin
      · rw [if_pos z]
        rw [show od ρ n 0 k = FP.dconst0 from if_neg z] at fin
        exact fin
  obtain ⟨μ1, a0, a1, a2⟩ := hl1
  have hl2 : OkQ (loop (stX6_laysChances_34 (nI n)) 5000 (nI 0, μ1)) (fun μ2 => (∀ k, k < 205 → rD μ2 1 0 k = od ρ n (ρ 37) k) ∧ Dn 1 μ μ2) := by
    refine loop_ok (ρ 37) (fun k q => q.1 = nI k ∧ (∀ i, i < 205 → rD q.2 1 0 i = od ρ n k i) ∧ Dn 1 μ q.2) (by omega) ⟨rfl, a1, a2⟩ ?_
    rintro k ⟨q1, q2⟩ hk ⟨e1, e2, e3⟩
    try dsimp only at e1 e2 e3
    subst e1
    have C2 := Dn_Cur e3 C
    unfold stX6_laysChances_34 jX6_laysChances_148
    simp only [l_0, l_1, l_5, l_8, l_37]
    rw [get_s C2 (by omega), Option.bind_some]
    by_cases hkn : k = ρ 37
    · rw [if_pos (nI_le (by omega) (by omega))]
      exact ⟨_, rfl, by rw [← hkn]; exact e2, e3⟩
    · have hw := hW.2.2.2.2 k (by omega)
      have h8 : bkv ρ k 8 ≤ 2 := hw.2.2.2.2.2.2.2
      have eo : od ρ n (k + 1) = if bkv ρ k 8 = 1 ∧ staysQ ρ k n = true then odU (od ρ n k) (prs ρ k) (ppN (bkv ρ k 5)) else od ρ n k := rfl
      rw [if_neg (nI_ge (by omega) (by omega)), of_s C2 (by omega) (by omega), Option.bind_some]; simp (disch := omega) only [nI_eq]
      by_cases q8 : bkv ρ k 8 = 1
      · rw [if_neg (fun z => z q8), staysIn_s C2 (by omega) hw (by omega), Option.bind_some]; simp (disch := omega) only [b1_z]
        by_cases qs : staysQ ρ k n = true
        · have hp := ppN_FC hw.2.2.2.2.1
          have hpr := WF_prs hW (b := k) (by omega)
          rw [if_pos ⟨q8, qs⟩] at eo
          obtain ⟨μ3, b0, b1', b2⟩ := addChances_s (μ := q2) (n := prs ρ k) (K := 1 + 5 * k) e2 (od_FC hW n k (by omega)) (by omega) hw.2.2.2.2.1 (by omega)
          rw [if_pos (by rw [qs]; decide), of_s C2 (by omega) (by omega), Option.bind_some]
          rw [show FP.ddiv (FP.i2d (nI (bkv ρ k 5))) (4636737291354636288 : UInt64) = ppN (bkv ρ k 5) from rfl, gd_pos (FC_n64 hp.1), persons_s C2 (by omega), Option.bind_some, show (205 : Int32) - nI 1 = mI 205 from by decide +kernel, b0, Option.bind_some]
          exact ⟨_, rfl, by omega, nI_add _ _, by rw [eo]; exact b1', Dn_tr e3 b2⟩
        · rw [if_neg (fun z => z (Bool.eq_false_iff.mpr qs))]
          rw [if_neg (fun z => qs z.2)] at eo
          exact ⟨_, rfl, by omega, nI_add _ _, by rw [eo]; exact e2, e3⟩
      · rw [if_pos q8]
        rw [if_neg (fun z => q8 z.1)] at eo
        exact ⟨_, rfl, by omega, nI_add _ _, by rw [eo]; exact e2, e3⟩
  unfold fX6_laysChances
  simp only [l_0]
  rw [a0, Option.bind_some]
  refine Ok_bind hl2 ?_
  intro μ2 h2
  exact ⟨_, rfl, h2⟩
/-- answers that are doubles: equal and finite -/
def ANd (c : Option ((UInt64 ⊕ Nat) × Mem)) (r : Option (UInt64 × Mem)) (E : List (Nat × Nat)) (J : Mem → Mem → Prop) : Prop :=
  (∃ x σ2, FP.dcmp x x = some .eq ∧ c = some (.inl x, σ2) ∧ OkQ r (fun q => q.1 = x ∧ rI q.2 60 0 0 = nI 0 ∧ J σ2 q.2)) ∨ (∃ k t σ2, (k, t) ∈ E ∧ c = some (.inr k, σ2) ∧ OkQ r (fun q => rI q.2 60 0 0 = nI t ∧ J σ2 q.2))
theorem od_end (h3 : I3 ρ) (n : Nat) {k : Nat} (hk : 193 ≤ k) : od ρ n (ρ 37) k = 0 := od_0 h3.1 n (ρ 37) (Nat.le_refl _) k (by have := h3.2.2; omega)
theorem ref_noD {μ : Mem} (t : Nat) : OkQ ((fX6_fails (nI t) (wI μ 60 0 0 (nI 0))).bind fun q => (some (FP.i2d q.1, q.2))) (fun q => rI q.2 60 0 0 = nI t ∧ QTQ μ q.2) := ⟨_, rfl, rI_wI_self, QT_tr QT_60 QT_60⟩
theorem ANd_no {c : Option ((UInt64 ⊕ Nat) × Mem)} {r : Option (UInt64 × Mem)} {E : List (Nat × Nat)} (hIn : InQ σ μ) (k t : Nat) (hE : (k, t) ∈ E) (h1 : c = some (.inr k, σ)) (h2 : OkQ r (fun q => rI q.2 60 0 0 = nI t ∧ QTQ μ q.2)) : ANd c r E InQ := by
  refine Or.inr ⟨k, t, σ, hE, h1, Ok_mono h2 ?_⟩
  rintro q ⟨q1, q2⟩
  exact ⟨q1, In_qt hIn q2⟩
theorem ANd_chance (hIn : InQ σ μ) (p1 p2 : Int32) : ANd (fX5_chance p1 p2 σ) (fX6_chance p1 p2 μ) [(3, 1)] InQ := by
  obtain ⟨ρ, h1, C, h3, hN, h5, h6, h7⟩ := id hIn
  have h16 := h3.2.2
  have C0 := cur0 C
  rcases ix_em p1 30 with ⟨n, hn, rfl⟩ | q
  · obtain ⟨σ2, a0, a1, a2⟩ := fillOdds_h h1 h3 hn
    obtain ⟨μ2, b0, b1', b2⟩ := laysChances_s C0 h3.1 h16 hn
    have hJ : InQ σ2 μ2 := In_qt (In_st hIn (Dn_ST (j := rP σ 1) a2) rfl) (QT_tr QT_60 (Dn_QT b2))
    have h60 : rI μ2 60 0 0 = nI 0 := by rw [Dn_I b2, rI_wI_self]
    rcases ix_em p2 205 with ⟨k, hk, rfl⟩ | q2
    · refine Or.inl ⟨od ρ n (ρ 37) k, σ2, dcmp_self' (od_FC h3.1 n (ρ 37) (Nat.le_refl _) k), ?_, ?_⟩
      · unfold fX5_chance jX5_chance_31
        simp only [l_193]
        rw [chkN_Y hn, Option.bind_some, Sum.elim_inl, a0, Option.bind_some, if_neg (show ¬ nI k < 0 from nI_nlt (b := 0) (by omega) (by omega))]
        by_cases z : 193 ≤ k
        · rw [if_pos (nI_le z (by omega)), od_end h3 n z] <;> rfl
        · rw [if_neg (nI_ge (by omega) (by omega)), gd_inb (by omega) (by omega), nI_clamp (by omega), a1 k (by omega)]
      · unfold fX6_chance
        simp only [l_0, l_1, l_205]
        rw [isNight_Y hn, Option.bind_some, if_pos (by decide), b0, Option.bind_some, isIn_Y hk (by omega), Option.bind_some, if_neg (by decide), gd_inb (by omega) (by omega), nI_clamp (by omega), b1' k (by omega)]
        exact ⟨_, rfl, rfl, h60, hJ⟩
    · refine Or.inl ⟨0, σ2, dcmp_self' (FC_0 (K := 0)), ?_, ?_⟩
      · unfold fX5_chance jX5_chance_31
        rw [chkN_Y hn, Option.bind_some, Sum.elim_inl, a0, Option.bind_some]
        by_cases z : p2 < 0
        · rw [if_pos z] <;> rfl
        · rw [if_neg z, if_pos ?_]
          · rfl
          · rcases ix_no (by omega) q2 with y | y
            · exact absurd y z
            · have y1 := Int32.not_lt.mp y
              exact Int32.le_trans (show (193 : Int32) ≤ nI 205 from by decide +kernel) y1
      · unfold fX6_chance
        simp only [l_0, l_1, l_205]
        rw [isNight_Y hn, Option.bind_some, if_pos (by decide), b0, Option.bind_some, isIn_N (by omega) q2, Option.bind_some, if_pos rfl]
        exact ⟨_, rfl, rfl, h60, hJ⟩
  · refine ANd_no hIn 3 1 (by decide) ?_ ?_
    · unfold fX5_chance
      rw [chkN_N q, Option.bind_some, Sum.elim_inr]
    · unfold fX6_chance
      simp only [l_0, l_1]
      rw [isNight_N q, Option.bind_some, if_neg (by decide)]
      exact ref_noD 1
end
