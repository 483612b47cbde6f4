/-! layer 2: the chances of a night -/
def odU (f : Nat → UInt64) (n : Nat) (p : UInt64) : Nat → UInt64 := fun k => FP.dadd (FP.dmul (f k) (FP.dsub FP.dconst1 p)) (FP.dmul (if k < n then 0 else f (k - n)) p)
def od (ρ : RwQ) (n : Nat) : Nat → Nat → UInt64
  | 0 => fun k => if k = 0 then FP.dconst1 else 0
  | b + 1 => if bkv ρ b 8 = 1 ∧ staysQ ρ b n = true then odU (od ρ n b) (prs ρ b) (ppN (bkv ρ b 5)) else od ρ n b
/-- doubles alone have changed, on plane z -/
def Dn (z : Nat) (σ σ2 : Mem) : Prop := σ2.1 = σ.1 ∧ σ2.2.1 = σ.2.1 ∧ σ2.2.2.2 = σ.2.2.2
theorem Dn_I {z : Nat} {σ σ2 : Mem} (h : Dn z σ σ2) (k j r : Nat) : rI σ2 k j r = rI σ k j r := by
  show σ2.1 k j r = σ.1 k j r
  rw [h.1]
theorem Dn_J {z : Nat} {σ σ2 : Mem} (h : Dn z σ σ2) (k j r : Nat) : rJ σ2 k j r = rJ σ k j r := by
  show σ2.2.1 k j r = σ.2.1 k j r
  rw [h.2.1]
theorem Dn_P {z : Nat} {σ σ2 : Mem} (h : Dn z σ σ2) (k : Nat) : rP σ2 k = rP σ k := by
  show σ2.2.2.2 k = σ.2.2.2 k
  rw [h.2.2]
theorem Dn_rfl (z : Nat) (σ : Mem) : Dn z σ σ := ⟨rfl, rfl, rfl⟩
theorem Dn_tr {z : Nat} {a b c : Mem} (h : Dn z a b) (h2 : Dn z b c) : Dn z a c := ⟨h2.1.trans h.1, h2.2.1.trans h.2.1, h2.2.2.trans h.2.2⟩
theorem Dn_wD {z : Nat} {σ : Mem} {k j r : Nat} {v : UInt64} : Dn z σ (wD σ k j r v) := ⟨rfl, rfl, rfl⟩
theorem Dn_ST {z j : Nat} {σ σ2 : Mem} (h : Dn z σ σ2) : STQ j σ σ2 := ⟨fun k x r _ => Dn_I h k x r, fun k x r _ => Dn_J h k x r, fun k => Dn_P h k⟩
theorem Dn_QT {z : Nat} {μ μ2 : Mem} (h : Dn z μ μ2) : QTQ μ μ2 := ⟨fun k x r _ => Dn_I h k x r, fun k x r _ _ _ => Dn_J h k x r⟩
theorem odU_FC {f : Nat → UInt64} {n K : Nat} {p : UInt64} (hf : ∀ k, FC (1021 + K) (f k)) (hp : FC 1022 p) (hq : FC 1022 (FP.dsub FP.dconst1 p)) (hK : K ≤ 900) (k : Nat) : FC (1021 + (K + 5)) (odU f n p k) ∧ FC (K + 1024) (FP.dmul (f k) (FP.dsub FP.dconst1 p)) ∧ FC (K + 1024) (FP.dmul (if k < n then 0 else f (k - n)) p) := by
  have h1 : FC (K + 1024) (FP.dmul (f k) (FP.dsub FP.dconst1 p)) := FC_dmul (hf k) hq (by omega) hK
  have h0 : FC (1021 + K) (if k < n then 0 else f (k - n)) := by
    split
    · exact FC_0
    · exact hf _
  have h2 : FC (K + 1024) (FP.dmul (if k < n then 0 else f (k - n)) p) := FC_dmul h0 hp (by omega) hK
  exact ⟨FC_mono (FC_dadd h1 h2 (by omega)) (by omega), h1, h2⟩
theorem ppN_FC {c : Nat} (hc : c ≤ 100) : FC 1022 (ppN c) ∧ FC 1022 (FP.dsub FP.dconst1 (ppN c)) := ⟨chkF_FC (pp_ok c (by omega)).1, chkF_FC (pp_ok c (by omega)).2⟩
theorem od_FC {ρ : RwQ} (hW : WF ρ) (n : Nat) : ∀ b, b ≤ ρ 37 → ∀ k, FC (1021 + (1 + 5 * b)) (od ρ n b k) := by
  have h17 := hW.2.1
  intro b
  induction b with
  | zero =>
    intro _ k
    show FC _ (if k = 0 then FP.dconst1 else 0)
    split
    · exact FC_1
    · exact FC_0
  | succ b ih =>
    intro hb k
    have hc := (hW.2.2.2.2 b (by omega)).2.2.2.2.1
    show FC _ ((if bkv ρ b 8 = 1 ∧ staysQ ρ b n = true then odU (od ρ n b) (prs ρ b) (ppN (bkv ρ b 5)) else od ρ n b) k)
    split
    · exact FC_mono (odU_FC (ih (by omega)) (ppN_FC hc).1 (ppN_FC hc).2 (by omega) k).1 (by omega)
    · exact FC_mono (ih (by omega) k) (by omega)
theorem od_0 {ρ : RwQ} (hW : WF ρ) (n : Nat) : ∀ b, b ≤ ρ 37 → ∀ k, 12 * b < k → od ρ n b k = 0 := by
  intro b
  induction b with
  | zero => intro _ k hk; exact if_neg (by omega)
  | succ b ih =>
    intro hb k hk
    have hw := hW.2.2.2.2 b (by omega)
    have hp := WF_prs hW (b := b) (by omega)
    show (if bkv ρ b 8 = 1 ∧ staysQ ρ b n = true then odU (od ρ n b) (prs ρ b) (ppN (bkv ρ b 5)) else od ρ n b) k = 0
    split
    · unfold odU
      rw [ih (by omega) k (by omega)]
      have e2 : (if k < prs ρ b then 0 else od ρ n b (k - prs ρ b)) = 0 := by
        rw [if_neg (by omega), ih (by omega) _ (by omega)]
      rw [e2]
      have e3 : FP.dmul 0 (FP.dsub FP.dconst1 (ppN (bkv ρ b 5))) = 0 := (dmul0 (ppN_FC hw.2.2.2.2.1).2).2
      have e4 : FP.dmul 0 (ppN (bkv ρ b 5)) = 0 := (dmul0 (ppN_FC hw.2.2.2.2.1).1).2
      rw [e3, e4]
      exact dadd0 (by decide)
    · exact ih (by omega) k (by omega)
section
variable {σ μ : Mem} {ρ : RwQ} {K n : Nat} {f : Nat → UInt64} {p : UInt64}
theorem mI_lt0 {v : Nat} (h : v < 2 ^ 31) : mI (v + 1) < 0 ↔ False := by
  rw [mI_s]
  exact ⟨fun z => absurd z (nI_nlt (a := v) (b := 0) (by omega) (by omega)), False.elim⟩
theorem addOdds_h (hf : ∀ k, k < 193 → rD σ 0 0 k = f k) (hF : ∀ k, FC (1021 + K) (f k)) (hK : K ≤ 900) (hp : FC 1022 p) (hq : FC 1022 (FP.dsub FP.dconst1 p)) (hn : n ≤ 12) : OkQ (fX5_addToOdds (nI n) p σ) (fun σ2 => (∀ k, k < 193 → rD σ2 0 0 k = odU f n p k) ∧ Dn 0 σ σ2) := by
  have hl : OkQ (loop (stX5_addToOdds_9 (nI n) p) 5000 (mI 193, σ)) (fun σ2 => (∀ k, k < 193 → rD σ2 0 0 k = odU f n p k) ∧ Dn 0 σ σ2) := by
    refine loop_ok 193 (fun k q => q.1 = mI (193 - k) ∧ (∀ i, i < 193 → rD q.2 0 0 i = if 193 - k ≤ i then odU f n p i else f i) ∧ Dn 0 σ q.2) (by omega) ⟨rfl, fun i hi => by rw [if_neg (by omega)]; exact hf i hi, Dn_rfl 0 σ⟩ ?_
    rintro k ⟨q1, q2⟩ hk ⟨e1, e2, e3⟩
    try dsimp only at e1 e2 e3
    subst e1
    unfold stX5_addToOdds_9
    by_cases hk2 : k = 193
    · rw [hk2, if_pos (show mI (193 - 193) < 0 from by decide +kernel)]
      refine ⟨_, rfl, fun i hi => ?_, e3⟩
      rw [e2 i hi, if_pos (by omega)]
    · obtain ⟨v, hv⟩ : ∃ v, 193 - k = v + 1 := ⟨192 - k, by omega⟩
      rw [hv]
      try dsimp only
      rw [if_neg (fun z => (mI_lt0 (v := v) (by omega)).mp z), mI_s]
      obtain ⟨g1, g2, g3⟩ := odU_FC (n := n) hF hp hq hK v
      have ev : rD q2 0 0 v = f v := by rw [e2 v (by omega), if_neg (by omega)]
      have fin : OkQ (jX5_addToOdds_33 (nI v, q2) p (if v < n then 0 else f (v - n))) (fun r => Sum.elim (fun a2 => k < 193 ∧ a2.1 = mI (193 - (k + 1)) ∧ (∀ i, i < 193 → rD a2.2 0 0 i = if 193 - (k + 1) ≤ i then odU f n p i else f i) ∧ Dn 0 σ a2.2) (fun σ2 => (∀ k, k < 193 → rD σ2 0 0 k = odU f n p k) ∧ Dn 0 σ σ2) r) := by
        have g1' : FC (1021 + (K + 5)) (FP.dadd (FP.dmul (f v) (FP.dsub FP.dconst1 p)) (FP.dmul (if v < n then 0 else f (v - n)) p)) := g1
        unfold jX5_addToOdds_33
        try dsimp only
        rw [gd_inb (by omega) (by omega), nI_clamp (by omega), ev, gd_pos (FC_n64 hq), gd_pos (FC_n64 g2), gd_pos (FC_n64 g3), gd_pos (FC_n64 g1')]
        refine ⟨_, rfl, by omega, by rw [show 193 - (k + 1) = v by omega] <;> rfl, fun i hi => ?_, Dn_tr e3 Dn_wD⟩
        rw [rD_wD]
        by_cases z : i = v
        · rw [if_pos ⟨rfl, rfl, z⟩, z, show (if 193 - (k + 1) ≤ v then odU f n p v else f v) = odU f n p v from if_pos (by omega)] <;> rfl
        · rw [if_neg (fun y => z y.2.2), e2 i hi]
          by_cases z2 : 193 - k ≤ i
          · rw [if_pos z2, if_pos (by omega)]
          · rw [if_neg z2, if_neg (by omega)]
      by_cases hvn : v < n
      · rw [if_pos (nI_lt hvn (by omega))]
        rw [if_pos hvn] at fin
        exact fin
      · rw [if_neg (nI_nlt (by omega) (by omega)), pk_sub (by omega), gd_inb (by omega) (by omega), nI_clamp (by omega), e2 (v - n) (by omega), if_neg (by omega)]
        rw [if_neg hvn] at fin
        exact fin
  unfold fX5_addToOdds
  rw [show (193 : Int32) - (1 : Int32) = mI 193 from by decide +kernel]
  refine Ok_bind hl ?_
  intro σ2 h2
  exact ⟨_, rfl, h2⟩
theorem fillOdds_h (h1 : I1 σ ρ) (h3 : I3 ρ) {n : Nat} (hn : n < 30) : OkQ (fX5_fillOdds (nI n) σ) (fun σ2 => (∀ k, k < 193 → rD σ2 0 0 k = od ρ n (ρ 37) k) ∧ Dn 0 σ σ2) := by
  have h16 := h3.2.2
  have hlt := I1_lt h1
  have hl1 : OkQ (loop stX5_fillOdds_9 5000 (nI 1, wD σ 0 0 0 FP.dconst1)) (fun σ2 => (∀ k, k < 193 → rD σ2 0 0 k = od ρ n 0 k) ∧ Dn 0 σ σ2) := by
    refine loop_ok 192 (fun k q => q.1 = nI (k + 1) ∧ (∀ i, i < k + 1 → rD q.2 0 0 i = od ρ n 0 i) ∧ Dn 0 σ q.2) (by omega) ⟨rfl, fun i hi => by rw [show i = 0 by omega]; exact rD_wD_self, Dn_wD⟩ ?_
    rintro k ⟨q1, q2⟩ hk ⟨e1, e2, e3⟩
    try dsimp only at e1 e2 e3
    subst e1
    unfold stX5_fillOdds_9
    simp only [l_1, l_193]
    by_cases hk2 : k = 192
    · rw [if_pos (nI_le (by omega) (by omega))]
      exact ⟨_, rfl, fun i hi => e2 i (by omega), e3⟩
    · rw [if_neg (nI_ge (by omega) (by omega)), gd_inb (by omega) (by omega), nI_clamp (by omega)]
      refine ⟨_, rfl, by omega, nI_add _ _, fun i hi => ?_, Dn_tr e3 Dn_wD⟩
      show rD (wD q2 0 0 (k + 1) FP.dconst0) 0 0 i = _
      rw [rD_wD]
      by_cases z : i = k + 1
      · rw [if_pos ⟨rfl, rfl, z⟩]
        show FP.dconst0 = if i = 0 then FP.dconst1 else 0
        rw [if_neg (by omega)] <;> rfl
      · rw [if_neg (fun y => z y.2.2)]; exact e2 i (by omega)
  obtain ⟨σ1, a0, a1, a2⟩ := hl1
  have hl2 : OkQ (loop (stX5_fillOdds_33 (nI n)) 5000 (nI 0, σ1)) (fun σ2 => (∀ k, k < 193 → rD σ2 0 0 k = od ρ n (ρ 37) k) ∧ Dn 0 σ σ2) := by
    refine loop_ok (ρ 37) (fun k q => q.1 = nI k ∧ (∀ i, i < 193 → rD q.2 0 0 i = od ρ n k i) ∧ Dn 0 σ q.2) (by omega) ⟨rfl, a1, a2⟩ ?_
    rintro k ⟨q1, q2⟩ hk ⟨e1, e2, e3⟩
    try dsimp only at e1 e2 e3
    subst e1
    have hP : rP q2 0 = rP σ 0 := Dn_P e3 0
    unfold stX5_fillOdds_33 jX5_fillOdds_87
    simp only [l_0, l_1]
    rw [hP, gd_pos hlt, Dn_I e3, h1.2.1.1.2.2.1]
    by_cases hkn : k = ρ 37
    · rw [if_pos (nI_le (by omega) (by omega))]
      exact ⟨_, rfl, by rw [← hkn]; exact e2, e3⟩
    · have hw := h3.1.2.2.2.2 k (by omega)
      have h8 : bkv ρ k 8 ≤ 2 := hw.2.2.2.2.2.2.2
      have hB := h1.2.1.1.2.2.2.2.2.2.2.2 k (by omega)
      have hB2 : HBk q2 (rP σ 0) k ρ k := by
        unfold HBk at hB ⊢
        rw [Dn_I e3, Dn_I e3, Dn_I e3, Dn_I e3, Dn_I e3, Dn_I e3, Dn_I e3, Dn_I e3, Dn_I e3]; exact hB
      have eo : od ρ n (k + 1) = if bkv ρ k 8 = 1 ∧ staysQ ρ k n = true then odU (od ρ n k) (prs ρ k) (ppN (bkv ρ k 5)) else od ρ n k := rfl
      rw [if_neg (nI_ge (by omega) (by omega)), gd_inb (by omega) (by omega), nI_clamp (by omega), Dn_I e3, h1.2.1.2.1 k (by omega)]; simp (disch := omega) only [nI_eq]
      by_cases q8 : bkv ρ k 8 = 1
      · rw [if_neg (fun z => z q8), staysB_h hB2 hw (by omega), Option.bind_some]; simp (disch := omega) only [b1_z]
        by_cases qs : staysQ ρ k n = true
        · have hp := ppN_FC hw.2.2.2.2.1
          have hpr := WF_prs h3.1 (b := k) (by omega)
          rw [if_pos ⟨q8, qs⟩] at eo
          obtain ⟨σ3, b0, b1', b2⟩ := addOdds_h (σ := q2) (n := prs ρ k) (K := 1 + 5 * k) e2 (od_FC h3.1 n k (by omega)) (by omega) hp.1 hp.2 (by omega)
          rw [if_neg (by rw [qs]; decide), hB2.2.2.2.2.2.2.1, hB2.2.2.2.2.1]
          show OkQ (gd (n64 (ppN (bkv ρ k 5))) ((fX5_addToOdds (nI (prs ρ k)) (ppN (bkv ρ k 5)) q2).bind _)) _
          rw [gd_pos (FC_n64 hp.1), b0, Option.bind_some]
          exact ⟨_, rfl, by omega, nI_add _ _, by rw [eo]; exact b1', Dn_tr e3 b2⟩
        · rw [if_pos (Bool.eq_false_iff.mpr qs)]
          rw [if_neg (fun z => qs z.2)] at eo
          exact ⟨_, rfl, by omega, nI_add _ _, by rw [eo]; exact e2, e3⟩
      · rw [if_pos q8]
        rw [if_neg (fun z => q8 z.1)] at eo
        exact ⟨_, rfl, by omega, nI_add _ _, by rw [eo]; exact e2, e3⟩
  unfold fX5_fillOdds
  simp only [l_0, l_1]
  rw [nI_clamp (by omega), a0, Option.bind_some]
  refine Ok_bind hl2 ?_
  intro σ2 h2
  exact ⟨_, rfl, h2⟩
end
