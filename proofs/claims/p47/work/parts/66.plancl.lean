/-! layer 2: the class's placing: free beds, one room, sets of rooms -/
def PCb (σ : Mem) (q : Nat) (h : RwQ) : Prop := ∀ x, x < 80 → ∃ B, B < 2 ^ 30 ∧ rI σ 50 q x = nI B ∧ ∀ n, n < 30 → B.testBit n = decide (h (30 * x + n) ≠ 0)
def PC (σ : Mem) (q : Nat) (π : PnQ) : Prop := PCb σ q π.1 ∧ (∀ b, b < 17 → rI σ 52 q b = nI (π.2.1 b)) ∧ (∀ i, i < 204 → π.2.2 i ≠ 0 → rI σ 51 q i = nI (π.2.2 i - 1))
def KPc (q : Nat) (k x _r : Nat) : Prop := (50 ≤ k ∧ k ≤ 57) ∧ x = q
theorem PCb_fr {K : Nat → Nat → Nat → Prop} {σ σ2 : Mem} {q : Nat} {h : RwQ} (H : PCb σ q h) (F : FrQ K σ σ2) (hk : ∀ r, ¬ K 50 q r) : PCb σ2 q h := by
  intro x hx
  obtain ⟨B, b1, b2, b3⟩ := H x hx
  exact ⟨B, b1, by rw [F.1 _ _ _ (hk x)]; exact b2, b3⟩
theorem PC_fr {K : Nat → Nat → Nat → Prop} {σ σ2 : Mem} {q : Nat} {π : PnQ} (H : PC σ q π) (F : FrQ K σ σ2) (hk : ∀ k r, 50 ≤ k → k ≤ 52 → ¬ K k q r) : PC σ2 q π :=
  ⟨PCb_fr H.1 F (fun r => hk 50 r (by omega) (by omega)), fun b hb => by rw [F.1 _ _ _ (hk 52 b (by omega) (by omega))]; exact H.2.1 b hb, fun i hi h0 => by rw [F.1 _ _ _ (hk 51 i (by omega) (by omega))]; exact H.2.2 i hi h0⟩
theorem H0_pl {σ σ2 : Mem} {q j : Nat} {ρ : RwQ} (h : H0 σ j ρ) (F : FrQ (KPc q) σ σ2) : H0 σ2 j ρ := H0_fr h F (fun k r _ _ _ _ _ w => by have := w.1; omega)
theorem Ht_pl {σ σ2 : Mem} {q j : Nat} {ρ : RwQ} (h : Ht σ j ρ) (F : FrQ (KPc q) σ σ2) : Ht σ2 j ρ := Ht_fr h F (fun r w => by have := w.1; omega)
theorem HR_pl {σ σ2 : Mem} {q j : Nat} {ρ : RwQ} (h : HR σ j ρ) (F : FrQ (KPc q) σ σ2) : HR σ2 j ρ := HR_fr h F (fun k r _ _ w => by have := w.1; omega)
def nightM (ρ : RwQ) (b : Nat) : Nat := (2 ^ (bkv ρ b 1) - 1) * 2 ^ (bkv ρ b 0)
theorem nightM_bit {ρ : RwQ} {b n : Nat} : (nightM ρ b).testBit n = staysQ ρ b n := by
  unfold nightM staysQ
  rw [← Nat.shiftLeft_eq, Nat.testBit_shiftLeft, Nat.testBit_two_pow_sub_one]
  by_cases h : bkv ρ b 0 ≤ n
  · by_cases h2 : n - bkv ρ b 0 < bkv ρ b 1
    · rw [decide_eq_true h, decide_eq_true h2, decide_eq_true ⟨h, by omega⟩] <;> rfl
    · rw [decide_eq_true h, decide_eq_false h2, decide_eq_false (by omega)] <;> rfl
  · rw [decide_eq_false h, Bool.false_and, decide_eq_false (fun q => h q.1)]
theorem nightM_lt {ρ : RwQ} {b : Nat} (hw : WFb ρ b) : nightM ρ b < 2 ^ 30 := by
  have h1 : nightM ρ b < 2 ^ (bkv ρ b 1) * 2 ^ (bkv ρ b 0) := by
    unfold nightM
    exact Nat.mul_lt_mul_of_pos_right (by have := pow_pos (bkv ρ b 1); omega) (pow_pos _)
  rw [← Nat.pow_add] at h1
  exact Nat.lt_of_lt_of_le h1 (Nat.pow_le_pow_right (by omega) (by have := hw.2.1.2; omega))
theorem nightBits_h {σ : Mem} {j b x : Nat} {ρ : RwQ} (hB : HBk σ j b ρ x) (hw : WFb ρ x) : fX0_nightBits j b σ = some (nI (nightM ρ x)) := by
  have h1 := nightM_lt hw
  obtain ⟨w1, w2, -⟩ := hw
  have hp : 2 ^ (bkv ρ x 1) ≤ 2 ^ 30 := Nat.pow_le_pow_right (by omega) (by omega)
  have hp2 := pow_pos (bkv ρ x 1)
  unfold fX0_nightBits
  simp only [l_1]
  rw [hB.1, hB.2.1, nI_shl (by omega) (by omega), Nat.one_mul, pk_sub (by omega), nI_shl (by omega) (by unfold nightM at h1; omega)]
  rfl
theorem busyAnd {σ : Mem} {q b x : Nat} {ρ h : RwQ} (H : PCb σ q h) (hw : WFb ρ b) (hx : x < 80) : rI σ 50 q x &&& nI (nightM ρ b) = nI 0 ↔ freeB ρ h b x = true := by
  obtain ⟨B, b1, b2, b3⟩ := H x hx
  have h1 := nightM_lt hw
  have hbm : B &&& nightM ρ b < 2 ^ 30 := Nat.lt_of_le_of_lt Nat.and_le_left b1
  rw [b2, nI_andB (by omega) (by omega)]; simp (disch := omega) only [nI_eq]; rw [freeB_iff]
  constructor
  · intro e n hn hs
    have h2 : (B &&& nightM ρ b).testBit n = false := by rw [e]; exact Nat.zero_testBit n
    rw [Nat.testBit_and, nightM_bit, hs, Bool.and_true, b3 n hn, decide_eq_false_iff_not] at h2
    omega
  · intro e
    apply Nat.eq_of_testBit_eq
    intro n
    rw [Nat.zero_testBit, Nat.testBit_and]
    by_cases hn : n < 30
    · rw [nightM_bit, b3 n hn]
      cases hs : staysQ ρ b n
      · exact Bool.and_false _
      · rw [Bool.and_true, decide_eq_false_iff_not]
        have := e n hn hs
        omega
    · rw [Nat.testBit_lt_two_pow (Nat.lt_of_lt_of_le b1 (Nat.pow_le_pow_right (by omega) (by omega))), Bool.false_and]
section
variable {σ : Mem} {q j : Nat} {ρ : RwQ} {h : RwQ}
theorem fU_le {b r : Nat} : fU ρ h b r ≤ rmv ρ r 1 := by
  unfold fU
  split
  · exact freeC_le
  · exact Nat.zero_le _
theorem countFree_h (h0 : H0 σ j ρ) (hW : WF ρ) (H : PCb σ q h) {b : Nat} (hb : b < ρ 37) : OkQ (fX3_countFree q j j b σ) (fun σ2 => (∀ r, r < ρ 4 → rI σ2 57 q r = nI (fU ρ h b r)) ∧ FrQ (fun k x _ => k = 57 ∧ x = q) σ σ2) := by
  have h8 := hW.1
  have h17 := hW.2.1
  have hw := hW.2.2.2.2 b hb
  have hB := h0.2.2.2.2.2.2.2.2 b hb
  have hl : OkQ (loop (stX3_countFree_8 j j b q (nI (nightM ρ b))) 5000 (nI 0, σ)) (fun σ2 => (∀ r, r < ρ 4 → rI σ2 57 q r = nI (fU ρ h b r)) ∧ FrQ (fun k x _ => k = 57 ∧ x = q) σ σ2) := by
    refine loop_ok (ρ 4) (fun k a => a.1 = nI k ∧ (∀ r, r < k → rI a.2 57 q r = nI (fU ρ h b r)) ∧ FrQ (fun k x _ => k = 57 ∧ x = q) σ a.2) (by omega) ⟨rfl, fun r hr => absurd hr (Nat.not_lt_zero _), Fr_rfl σ⟩ ?_
    rintro k ⟨a1, a2⟩ hk ⟨e1, e2, F⟩
    try dsimp only at e1 e2 F
    subst e1
    unfold stX3_countFree_8
    try dsimp only
    rw [F.1 20 j 0 (by omega), h0.1]
    by_cases hkn : k = ρ 4
    · subst hkn
      rw [if_pos (nI_le (Nat.le_refl _) (by omega))]
      exact ⟨_, rfl, e2, F⟩
    · have hwr := hW.2.2.2.1 k (by omega)
      have hr := h0.2.2.2.2.2.2.2.1 k (by omega)
      have h4 := hw.2.2.2.1
      have hd10 := hwr.2.1.2
      rw [if_neg (nI_ge (by omega) (by omega)), gd_inb (by omega) (by omega), nI_clamp (by omega)]
      have hin : OkQ (loop (stX3_countFree_37 j (nI k, a2) j b q (nI (nightM ρ b))) 5000 (nI 0, wI a2 57 q k (nI 0))) (fun σ2 => rI σ2 57 q k = nI (fU ρ h b k) ∧ FrQ (fun y x r => (y = 57 ∧ r = k) ∧ x = q) a2 σ2) := by
        refine loop_ok (rmv ρ k 1) (fun d a => a.1 = nI d ∧ rI a.2 57 q k = nI (if canU ρ b k = true then sumNQ (fun d => b1 (freeB ρ h b (10 * k + d))) d else 0) ∧ FrQ (fun y x r => (y = 57 ∧ r = k) ∧ x = q) a2 a.2) (by omega) ⟨rfl, ?_, Fr_wI (by omega)⟩ ?_
        · rw [rI_wI_self]
          split <;> rfl
        rintro d ⟨c1, c2⟩ hd ⟨f1, f2, G⟩
        try dsimp only at f1 f2 G
        subst f1
        have hG : ∀ y x r, ¬ (y = 57) → rI c2 y x r = rI σ y x r := fun y x r hy => by rw [G.1 y x r (fun w => hy w.1.1), F.1 y x r (fun w => hy w.1)]
        unfold stX3_countFree_37 jX3_countFree_88
        try dsimp only
        simp only [l_0, l_1, l_10]
        have hwr2 := hwr.2.2.1
        rw [nI_clamp (show k < 2 ^ 31 by omega), hG 31 j k (by omega), hr.2.1, hG 45 j b (by omega), hB.2.2.2.2.2.1, hG 32 j k (by omega), hr.2.2.1]; simp (disch := omega) only [nI_ltI]
        simp only [pk_mul, nI_add]
        by_cases hdn : d = rmv ρ k 1
        · subst hdn
          rw [if_pos (nI_le (Nat.le_refl _) (by have := hwr.2.1.2; omega))]
          exact ⟨_, rfl, f2, G⟩
        · have hHc : PCb c2 q h := by
            intro x hx
            obtain ⟨B, z1, z2, z3⟩ := H x hx
            exact ⟨B, z1, by rw [hG 50 q x (by omega)]; exact z2, z3⟩
          rw [if_neg (nI_ge (by omega) (by omega)), gd_inb (by omega) (by omega), nI_clamp (by omega), Nat.mul_comm k 10]; simp (disch := omega) only [busyAnd hHc hw]; rw [f2]
          simp only [nI_add]
          by_cases qc : bkv ρ b 4 < rmv ρ k 2
          · have hcu : ¬ canU ρ b k = true := fun w => by have := of_decide_eq_true w; omega
            rw [if_pos qc]
            refine ⟨_, rfl, by omega, rfl, ?_, G⟩
            rw [if_neg hcu] at f2 ⊢
            exact f2
          · have hcu : canU ρ b k = true := decide_eq_true (by omega)
            rw [if_neg qc]
            rw [if_pos hcu] at f2
            by_cases qf : freeB ρ h b (10 * k + d) = true
            · rw [if_neg (fun w => w qf)]
              refine ⟨_, rfl, by omega, rfl, ?_, Fr_tr G (Fr_wI (by omega))⟩
              show rI (wI c2 57 q k _) 57 q k = _
              rw [rI_wI_self]
              simp only [if_pos hcu]
              show _ = nI (sumNQ (fun d => b1 (freeB ρ h b (10 * k + d))) d + b1 (freeB ρ h b (10 * k + d)))
              rw [qf] <;> rfl
            · rw [if_pos qf]
              refine ⟨_, rfl, by omega, rfl, ?_, G⟩
              show rI c2 57 q k = _
              rw [f2]
              simp only [if_pos hcu]
              show _ = nI (sumNQ (fun d => b1 (freeB ρ h b (10 * k + d))) d + b1 (freeB ρ h b (10 * k + d)))
              rw [show freeB ρ h b (10 * k + d) = false by simpa using qf] <;> rfl
      refine Ok_bind hin ?_
      rintro σ2 ⟨g1, g2⟩
      simp only [l_1]
      rw [nI_add]
      refine ⟨_, rfl, by omega, rfl, ?_, Fr_tr F (Fr_mono g2 (fun y x r w => ⟨w.1.1, w.2⟩))⟩
      intro r hr2
      by_cases hrk : r = k
      · subst hrk; exact g1
      · rw [g2.1 57 q r (by omega)]; exact e2 r (by omega)
  unfold fX3_countFree
  rw [nightBits_h hB hw, Option.bind_some]
  simp only [l_0] at hl ⊢
  refine Ok_bind hl ?_
  intro σ2 h2
  exact ⟨_, rfl, h2⟩
theorem takesAll_h (h0 : H0 σ j ρ) (hW : WF ρ) {b r : Nat} (hb : b < ρ 37) (hr : r < ρ 4) : fX4_takesAll j r j b σ = some (nI (b1 (tkA ρ b r))) := by
  have hw := hW.2.2.2.2 b hb
  have hB := h0.2.2.2.2.2.2.2.2 b hb
  have hR := h0.2.2.2.2.2.2.2.1 r hr
  have hwr := hW.2.2.2.1 r hr
  have q0 := hwr.1
  have q2 := hw.2.2.1.1
  have q3 := hw.2.2.1.2.1
  unfold fX4_takesAll jX4_takesAll_22 jX4_takesAll_37 jX4_takesAll_41 tkA
  simp only [l_0, l_1, l_2]
  rw [hR.1, hB.2.2.1, hB.2.2.2.1]; simp (disch := omega) only [nI_eq]
  by_cases k0 : rmv ρ r 0 = 0
  · rw [if_pos k0, decide_eq_true (Or.inl k0)] <;> rfl
  · rw [if_neg k0]
    by_cases k1 : rmv ρ r 0 = 1
    · rw [if_neg (fun q => q k1)]
      by_cases m : bkv ρ b 3 = 0
      · rw [if_pos m, decide_eq_true (by omega)] <;> rfl
      · rw [if_neg m, if_pos (by omega), decide_eq_false (by omega)] <;> rfl
    · rw [if_pos k1]
      by_cases k2 : rmv ρ r 0 = 2
      · rw [if_neg (fun q => q k2)]
        by_cases w : bkv ρ b 2 = 0
        · rw [if_neg (fun q => q w), decide_eq_true (by omega)] <;> rfl
        · rw [if_pos w, decide_eq_false (by omega)] <;> rfl
      · rw [if_pos k2, decide_eq_false (by omega)] <;> rfl
theorem isBetter_h {F : Nat → Nat} (h0 : H0 σ j ρ) (hW : WF ρ) (hF : ∀ r, r < ρ 4 → rI σ 57 q r = nI (F r)) (hF2 : ∀ r, r < ρ 4 → F r ≤ 10) {r t : Nat} (hr : r < ρ 4) (ht : t < ρ 4) : fX3_isBetter q j (nI r) (nI t) σ = some (nI (b1 (decide (F r < F t ∨ (F r = F t ∧ rmv ρ r 3 < rmv ρ t 3))))) := by
  have h8 := hW.1
  have a1 := (hW.2.2.2.1 r hr).2.2.2.2
  have a2 := (hW.2.2.2.1 t ht).2.2.2.2
  have a3 := hF2 r hr
  have a4 := hF2 t ht
  unfold fX3_isBetter jX3_isBetter_51 jX3_isBetter_55
  simp only [l_0, l_1]
  rw [gd_inb (by omega) (by omega), gd_inb (by omega) (by omega), nI_clamp (by omega), nI_clamp (by omega), hF r hr, hF t ht, (h0.2.2.2.2.2.2.2.1 r hr).2.2.2, (h0.2.2.2.2.2.2.2.1 t ht).2.2.2]; simp (disch := omega) only [nI_ltI, nI_eq, nI_leI]
  by_cases q1 : F r < F t
  · rw [if_pos q1, decide_eq_true (Or.inl q1)] <;> rfl
  · rw [if_neg q1]
    by_cases q2 : F r = F t
    · rw [if_neg (fun w => w q2)]
      by_cases q3 : rmv ρ t 3 ≤ rmv ρ r 3
      · rw [if_pos q3, decide_eq_false (by omega)] <;> rfl
      · rw [if_neg q3, decide_eq_true (by omega)] <;> rfl
    · rw [if_pos q2, decide_eq_false (by omega)] <;> rfl
theorem orS_fit {ρ h : RwQ} {b : Nat} : ∀ k, orS ρ h b k ≠ 0 → fitR ρ h b (orS ρ h b k - 1) = true := by
  intro k
  induction k with
  | zero => intro q; exact absurd rfl q
  | succ k ih =>
    intro q
    have eS : orS ρ h b (k + 1) = if fitR ρ h b k = true ∧ btr ρ h b (orS ρ h b k) k = true then k + 1 else orS ρ h b k := rfl
    by_cases hc : fitR ρ h b k = true ∧ btr ρ h b (orS ρ h b k) k = true
    · rw [if_pos hc] at eS
      rw [eS]; exact hc.1
    · rw [if_neg hc] at eS
      rw [eS] at q ⊢
      exact ih q
theorem fitR_dec {ρ h : RwQ} {b r : Nat} : fitR ρ h b r = true ↔ canU ρ b r = true ∧ tkA ρ b r = true ∧ prs ρ b ≤ freeC ρ h b r := by
  unfold fitR
  rw [Bool.and_eq_true, Bool.and_eq_true, decide_eq_true_iff, and_assoc]
theorem oneRoom_h (h0 : H0 σ j ρ) (hW : WF ρ) {b : Nat} (hb : b < ρ 37) (hF : ∀ r, r < ρ 4 → rI σ 57 q r = nI (fU ρ h b r)) : fX3_oneRoom q j j b σ = some (nI (if orR ρ h b = 0 then 0 else 2 ^ (orR ρ h b - 1))) := by
  have h8 := hW.1
  have h17 := hW.2.1
  have hw := hW.2.2.2.2 b hb
  have hp := WF_prs hW hb
  have hB := h0.2.2.2.2.2.2.2.2 b hb
  have hF2 : ∀ r, r < ρ 4 → fU ρ h b r ≤ 10 := fun r hr => Nat.le_trans fU_le (hW.2.2.2.1 r hr).2.1.2
  have hor := orS_le (ρ := ρ) (h := h) (b := b) (ρ 4)
  have hor2 : orR ρ h b ≤ 8 := by unfold orR; omega
  have e : loop (stX3_oneRoom_5 σ j q j b) 5000 (-nI 1, nI 0) = some (mI (orR ρ h b)) := by
    refine loop_st (ρ 4) (fun k => (mI (orS ρ h b k), nI k)) (by omega) (by show _ = (mI 0, nI 0); rw [mI_0]) ?_ ?_
    · intro k hk
      have hle := orS_le (ρ := ρ) (h := h) (b := b) k
      have hfk := hF2 k hk
      have eS : orS ρ h b (k + 1) = if fitR ρ h b k = true ∧ btr ρ h b (orS ρ h b k) k = true then k + 1 else orS ρ h b k := rfl
      have hno : ¬ (fitR ρ h b k = true ∧ btr ρ h b (orS ρ h b k) k = true) → some (Sum.inl (mI (orS ρ h b k), nI (k + 1))) = (some (Sum.inl (mI (orS ρ h b (k + 1)), nI (k + 1))) : Option ((Int32 × Int32) ⊕ Int32)) := by
        intro w; rw [eS, if_neg w]
      have hyes : (fitR ρ h b k = true ∧ btr ρ h b (orS ρ h b k) k = true) → some (Sum.inl (nI k, nI (k + 1))) = (some (Sum.inl (mI (orS ρ h b (k + 1)), nI (k + 1))) : Option ((Int32 × Int32) ⊕ Int32)) := by
        intro w; rw [eS, if_pos w, mI_s]
      unfold stX3_oneRoom_5 jX3_oneRoom_58 jX3_oneRoom_61
      try dsimp only
      simp only [l_0, l_1]
      rw [h0.1, if_neg (nI_ge hk (by omega)), gd_inb (by omega) (by omega), nI_clamp (by omega), hF k hk, hB.2.2.2.2.1]; simp (disch := omega) only [nI_ltI]; rw [takesAll_h h0 hW hb hk, Option.bind_some]; simp (disch := omega) only [b1_z]; rw [nI_add]; simp (disch := omega) only [mI_z]
      by_cases q1 : fU ρ h b k < prs ρ b
      · rw [if_pos q1]
        refine hno (fun w => ?_)
        obtain ⟨w1, w2, w3⟩ := fitR_dec.mp w.1
        unfold fU at q1
        rw [if_pos w1] at q1
        omega
      · have hcu : canU ρ b k = true := by
          cases c : canU ρ b k
          · unfold fU at q1; rw [if_neg (by rw [c]; decide)] at q1; omega
          · rfl
        have hfe : fU ρ h b k = freeC ρ h b k := if_pos hcu
        rw [if_neg q1]
        by_cases q2 : tkA ρ b k = true
        · rw [if_neg (by rw [q2]; decide)]
          have hfit : fitR ρ h b k = true := fitR_dec.mpr ⟨hcu, q2, by omega⟩
          by_cases q3 : orS ρ h b k = 0
          · rw [if_pos q3]
            exact hyes ⟨hfit, decide_eq_true (Or.inl q3)⟩
          · have em : mI (orS ρ h b k) = nI (orS ρ h b k - 1) := by
              rw [← mI_s]; congr 1; omega
            have hfb := orS_fit k q3
            have hfbe : fU ρ h b (orS ρ h b k - 1) = freeC ρ h b (orS ρ h b k - 1) := if_pos (fitR_dec.mp hfb).1
            rw [if_neg q3]
            rw [em, isBetter_h h0 hW hF hF2 hk (by omega), Option.bind_some]; simp (disch := omega) only [b1_z]; rw [← em, hfe, hfbe]
            by_cases q4 : freeC ρ h b k < freeC ρ h b (orS ρ h b k - 1) ∨ (freeC ρ h b k = freeC ρ h b (orS ρ h b k - 1) ∧ rmv ρ k 3 < rmv ρ (orS ρ h b k - 1) 3)
            · rw [decide_eq_true q4, if_neg (by decide)]
              exact hyes ⟨hfit, decide_eq_true (Or.inr q4)⟩
            · rw [decide_eq_false q4, if_pos rfl]
              exact hno (fun w => (of_decide_eq_true w.2).elim q3 q4)
        · rw [if_pos (by simpa using q2)]
          exact hno (fun w => q2 (fitR_dec.mp w.1).2.1)
    · unfold stX3_oneRoom_5
      try dsimp only
      rw [h0.1, if_pos (nI_le (Nat.le_refl _) (by omega))] <;> rfl
  unfold fX3_oneRoom
  simp only [l_0, l_1]
  rw [e, Option.bind_some]; simp (disch := omega) only [mI_z]
  by_cases q1 : orR ρ h b = 0
  · rw [if_neg (fun w => w q1), if_pos q1]
  · have em : mI (orR ρ h b) = nI (orR ρ h b - 1) := by
      rw [← mI_s]; congr 1; omega
    have hpw : 2 ^ (orR ρ h b - 1) ≤ 2 ^ 7 := Nat.pow_le_pow_right (by omega) (by unfold orR; omega)
    rw [if_pos q1, if_neg q1, em, nI_shl (by unfold orR; omega) (by omega), Nat.one_mul]
theorem nI_max {a b : Nat} (ha : a < 2 ^ 20) (hb : b < 2 ^ 20) : (if nI 0 < nI a - nI b then nI a - nI b else nI 0) = nI (a - b) := by
  by_cases q : b < a
  · rw [pk_sub (by omega), if_pos (nI_lt (by omega) (by omega))]
  · rw [if_neg, show a - b = 0 by omega]
    rw [Int32.lt_iff_toInt_lt, pk_sub_toInt (by omega) (by omega), nI_toInt (by omega)]
    omega
theorem holds_h {F : Nat → Nat} (h0 : H0 σ j ρ) (hW : WF ρ) (hF : ∀ r, r < ρ 4 → rI σ 57 q r = nI (F r)) (hF2 : ∀ r, r < ρ 4 → F r ≤ 10) {b S : Nat} (hb : b < ρ 37) (hS : S < 256) : fX3_holds q j j b (nI S) σ = some (nI (b1 (enoughQ ρ F b S))) := by
  have h8 := hW.1
  have h17 := hW.2.1
  have hw := hW.2.2.2.2 b hb
  have hB := h0.2.2.2.2.2.2.2.2 b hb
  have k0 := sumK_le (S := S) (kd := 0) h8 hF2
  have k1 := sumK_le (S := S) (kd := 1) h8 hF2
  have k2 := sumK_le (S := S) (kd := 2) h8 hF2
  have e : loop (stX3_holds_12 σ j (nI S) q) 5000 (nI 0, nI 0, nI 0, nI 0) = some (nI (sumK ρ F S 1), nI (sumK ρ F S 2), nI (sumK ρ F S 0)) := by
    refine loop_st (ρ 4) (fun k => (nI (sumNQ (sumKT ρ F S 1) k), nI (sumNQ (sumKT ρ F S 2) k), nI (sumNQ (sumKT ρ F S 0) k), nI k)) (by omega) rfl ?_ ?_
    · intro k hk
      have hwr := hW.2.2.2.1 k hk
      have hk0 := hwr.1
      have hbit : S / 2 ^ k % 2 = 0 ∨ S / 2 ^ k % 2 = 1 := by omega
      unfold stX3_holds_12 jX3_holds_99
      try dsimp only
      simp only [l_1, l_2]
      rw [h0.1, if_neg (nI_ge hk (by omega)), gd_inb (by omega) (by omega), nI_bit (by omega) (by omega), nI_clamp (by omega), hF k hk, (h0.2.2.2.2.2.2.2.1 k hk).1]; simp (disch := omega) only [nI_eq]; rw [pk_mul, nI_add, nI_add, nI_add, nI_add]
      show _ = some (Sum.inl (nI (sumNQ (sumKT ρ F S 1) k + sumKT ρ F S 1 k), nI (sumNQ (sumKT ρ F S 2) k + sumKT ρ F S 2 k), nI (sumNQ (sumKT ρ F S 0) k + sumKT ρ F S 0 k), nI (k + 1)))
      have hT : ∀ kd, sumKT ρ F S kd k = if rmv ρ k 0 = kd then S / 2 ^ k % 2 * F k else 0 := by
        intro kd
        unfold sumKT
        rcases hbit with w | w
        · rw [w, if_neg (fun z => absurd z.1 (by decide)), Nat.zero_mul]
          split <;> rfl
        · rw [w, Nat.one_mul]
          by_cases z : rmv ρ k 0 = kd
          · rw [if_pos ⟨rfl, z⟩, if_pos z]
          · rw [if_neg (fun v => z v.2), if_neg z]
      rw [hT, hT, hT]
      by_cases q2 : rmv ρ k 0 = 1
      · rw [if_pos q2, if_pos q2, if_neg (by omega), if_neg (by omega)] <;> rfl
      · rw [if_neg q2, if_neg q2]
        by_cases q3 : rmv ρ k 0 = 2
        · rw [if_pos q3, if_pos q3, if_neg (by omega)] <;> rfl
        · rw [if_neg q3, if_neg q3, if_pos (by omega)] <;> rfl
    · unfold stX3_holds_12
      try dsimp only
      rw [h0.1, if_pos (nI_le (Nat.le_refl _) (by omega))] <;> rfl
  have a1 := hw.2.2.1.1
  have a2 := hw.2.2.1.2.1
  unfold fX3_holds enoughQ
  simp only [l_0, l_1]
  rw [e, Option.bind_some]
  try dsimp only
  rw [hB.2.2.1, hB.2.2.2.1, nI_max (by omega) (by omega), nI_max (by omega) (by omega), nI_add]; simp (disch := omega) only [nI_ltI]
  by_cases q3 : sumK ρ F S 0 < bkv ρ b 2 - sumK ρ F S 1 + (bkv ρ b 3 - sumK ρ F S 2)
  · rw [if_pos q3, decide_eq_false (by omega)] <;> rfl
  · rw [if_neg q3, decide_eq_true (by omega)] <;> rfl
theorem bitCount_h : ∀ n, n < 256 → fJ6_bitCount_0f7a4 (nI n) = some (nI (pc n)) := by decide +kernel
theorem fewest_h (h0 : H0 σ j ρ) (hW : WF ρ) {b : Nat} (hb : b < ρ 37) (hF : ∀ r, r < ρ 4 → rI σ 57 q r = nI (fU ρ h b r)) : fX3_fewestRooms q j j b σ = some (nI (stRQ ρ h b)) := by
  have h8 := hW.1
  have h17 := hW.2.1
  have hp := WF_prs hW hb
  have hpp := pow_pos (ρ 4)
  have hpl := pow_le h8
  have hF2 : ∀ r, r < ρ 4 → fU ρ h b r ≤ 10 := fun r hr => Nat.le_trans fU_le (hW.2.2.2.1 r hr).2.1.2
  have hall : nI 1 <<< (nI (ρ 4) &&& 31) - nI 1 = nI (2 ^ (ρ 4) - 1) := by
    rw [nI_shl (by omega) (by omega), Nat.one_mul, pk_sub (by omega)]
  rw [← clR_stR hW hb]
  unfold fX3_fewestRooms
  simp only [l_0, l_1]
  rw [h0.1, hall, holds_h h0 hW hF hF2 hb (by omega), Option.bind_some]; simp (disch := omega) only [b1_z]
  unfold clR
  by_cases hE : enoughQ ρ (fU ρ h b) b (2 ^ (ρ 4) - 1) = true
  · have hne := enough_ne hp.1 hE
    rw [if_pos (by rw [hE]; decide), if_pos hE]
    have e : loop (stX3_fewestRooms_27 σ j q j b) 5000 (nI (2 ^ (ρ 4) - 1), nI 1) = some (nI (clS ρ h b (2 ^ (ρ 4) - 2))) := by
      refine loop_st (2 ^ (ρ 4) - 2) (fun k => (nI (clS ρ h b k), nI (k + 1))) (by omega) rfl ?_ ?_
      · intro k hk
        have hcle := clS_le (ρ := ρ) (h := h) (b := b) k (by omega)
        have hp1 := pc_le (S := k + 1)
        have hp2 := pc_le (S := clS ρ h b k)
        have eS : clS ρ h b (k + 1) = if pc (k + 1) < pc (clS ρ h b k) ∧ enoughQ ρ (fU ρ h b) b (k + 1) = true then k + 1 else clS ρ h b k := rfl
        unfold stX3_fewestRooms_27 jX3_fewestRooms_61
        try dsimp only
        simp only [l_0, l_1]
        rw [h0.1, hall, if_neg (nI_ge (by omega) (by omega)), bitCount_h _ (by omega), Option.bind_some, bitCount_h _ (by omega), Option.bind_some]; simp (disch := omega) only [nI_leI]; rw [holds_h h0 hW hF hF2 hb (by omega), Option.bind_some]; simp (disch := omega) only [b1_z]; rw [nI_add, eS]
        by_cases q1 : pc (clS ρ h b k) ≤ pc (k + 1)
        · rw [if_pos q1, if_neg (by omega)]
        · rw [if_neg q1]
          by_cases q2 : enoughQ ρ (fU ρ h b) b (k + 1) = true
          · rw [if_neg (by rw [q2]; decide), if_pos ⟨by omega, q2⟩]
          · rw [if_pos (by simpa using q2), if_neg (fun w => q2 w.2)]
      · unfold stX3_fewestRooms_27
        try dsimp only
        simp only [l_1]
        rw [h0.1, hall, if_pos (nI_le (by omega) (by omega))]
    rw [e] <;> rfl
  · rw [if_neg (fun w => w (by simpa using hE)), if_neg hE]
end
