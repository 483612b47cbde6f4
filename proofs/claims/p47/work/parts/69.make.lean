/-! layer 2: the class's placing of all bookings -/
def PMy (σ : Mem) (q : Nat) (ρ : RwQ) (π : PnQ) : Prop := (∀ x, x < ρ 37 → rI σ 53 q x = nI (rbO ρ π x) ∧ rI σ 54 q x = nI (pdB ρ π x)) ∧ rI σ 55 q 0 = nI (sumNQ (pdB ρ π) (ρ 37)) ∧ rI σ 56 q 0 = nI (sumNQ (wkB ρ π) (ρ 37))
/-- behind place: what changed of the money -/
def PLm (σ σ2 : Mem) (q : Nat) (ρ : RwQ) (b : Nat) (π : PnQ) : Prop := (∀ x, x ≠ b → rI σ2 53 q x = rI σ 53 q x ∧ rI σ2 54 q x = rI σ 54 q x) ∧ (if setOfQ ρ π.1 b = 0 then rI σ2 53 q b = rI σ 53 q b ∧ rI σ2 54 q b = rI σ 54 q b ∧ rI σ2 55 q 0 = rI σ 55 q 0 ∧ rI σ2 56 q 0 = rI σ 56 q 0 + nI (ρ 1 * prs ρ b * bkv ρ b 1) else rI σ2 53 q b = nI (setOfQ ρ π.1 b) ∧ rI σ2 54 q b = nI (disc ρ b (sumNQ (totT ρ b (setOfQ ρ π.1 b) π.1 π.2.2) (prs ρ b))) ∧ rI σ2 55 q 0 = rI σ 55 q 0 + nI (disc ρ b (sumNQ (totT ρ b (setOfQ ρ π.1 b) π.1 π.2.2) (prs ρ b))) ∧ rI σ2 56 q 0 = rI σ 56 q 0)
section
variable {σ : Mem} {q j : Nat} {ρ : RwQ} {π : PnQ}
theorem PC_bec {σ2 : Mem} {b v : Nat} (H : PC σ q π) : PC (wI σ 52 q b (nI v)) q (π.1, upQ π.2.1 b v, π.2.2) := by
  refine ⟨PCb_fr H.1 (K := fun k _ _ => k = 52) (Fr_wI rfl) (fun r w => by omega), fun x hx => ?_, fun i hi h0 => ?_⟩
  · rw [rI_wI]
    by_cases h : x = b
    · subst h
      rw [if_pos ⟨rfl, rfl, rfl⟩]
      show nI v = nI (upQ π.2.1 x v x)
      rw [up_s]
    · rw [if_neg (fun w => h w.2.2), H.2.1 x hx]
      show nI _ = nI (upQ π.2.1 b v x)
      rw [up_n h]
  · rw [rI_wI, if_neg (by omega)]
    exact H.2.2 i hi h0
theorem up_up (f : RwQ) (k v w : Nat) : upQ (upQ f k v) k w = upQ f k w := by
  funext i
  unfold upQ
  split <;> rfl
theorem placeEnd_h {σ4 : Mem} (h0 : H0 σ j ρ) (hW : WF ρ) {b v : Nat} (hb : b < ρ 37) (F4 : FrQ (fun k x _ => (k = 52 ∨ k = 57) ∧ x = q) σ σ4) (H4 : PC σ4 q (π.1, upQ π.2.1 b v, π.2.2)) (hv : setOfQ ρ π.1 b ≠ 0 → v = becOf ρ π.1 b) : OkQ (jX3_place_55 q j (nI b) (nI (setOfQ ρ π.1 b)) σ4) (fun σ2 => PC σ2 q (plc1 ρ b π) ∧ PLm σ σ2 q ρ b π ∧ FrQ (KPc q) σ σ2) := by
  have h8 := hW.1
  have h17 := hW.2.1
  have hw := hW.2.2.2.2 b hb
  have hp := WF_prs hW hb
  have hS := setOf_lt (h := π.1) (b := b) h8
  have h04 : H0 σ4 j ρ := H0_fr h0 F4 (fun k r _ _ _ _ _ w => by omega)
  have hB4 := h04.2.2.2.2.2.2.2.2 b hb
  have FK : FrQ (KPc q) σ σ4 := Fr_mono F4 (fun k x r w => ⟨by omega, w.2⟩)
  unfold jX3_place_55
  simp only [l_0, l_3]
  simp (disch := omega) only [nI_eq]; rw [nI_clamp (show b < 2 ^ 31 by omega)]
  by_cases hne : setOfQ ρ π.1 b = 0
  · rw [if_neg (fun w => w hne)]
    have F5 : FrQ (fun k x _ => k = 52 ∧ x = q) σ4 (wI σ4 52 q b (nI 3)) := Fr_wI ⟨rfl, rfl⟩
    rw [F5.1 56 q 0 (by omega), F5.1 25 j 0 (by omega), F5.1 44 j b (by omega), F5.1 41 j b (by omega), h04.2.2.2.2.1, hB4.2.2.2.2.1, hB4.2.1, pk_mul, pk_mul]
    have F6 : FrQ (fun k x _ => (k = 52 ∨ k = 56) ∧ x = q) σ4 (wI (wI σ4 52 q b (nI 3)) 56 q 0 (rI σ4 56 q 0 + nI (ρ 1 * prs ρ b * bkv ρ b 1))) := Fr_tr (Fr_wI (by omega)) (Fr_wI (by omega))
    refine ⟨_, rfl, ?_, ⟨fun x hx => ⟨?_, ?_⟩, ?_⟩, Fr_tr FK (Fr_mono F6 (fun k x r w => ⟨by omega, w.2⟩))⟩
    · have e : plc1 ρ b π = (π.1, upQ π.2.1 b 3, π.2.2) := by unfold plc1; rw [if_pos hne]
      rw [e]
      have := PC_bec (σ2 := σ4) (b := b) (v := 3) H4
      rw [up_up] at this
      exact PC_fr this (K := fun k _ _ => k = 56) (Fr_wI rfl) (fun k r _ _ w => by omega)
    · rw [F6.1 53 q x (by omega), F4.1 53 q x (by omega)]
    · rw [F6.1 54 q x (by omega), F4.1 54 q x (by omega)]
    · rw [if_pos hne]
      refine ⟨?_, ?_, ?_, ?_⟩
      · rw [F6.1 53 q b (by omega), F4.1 53 q b (by omega)]
      · rw [F6.1 54 q b (by omega), F4.1 54 q b (by omega)]
      · rw [F6.1 55 q 0 (by omega), F4.1 55 q 0 (by omega)]
      · rw [rI_wI, if_pos ⟨rfl, rfl, rfl⟩, F4.1 56 q 0 (by omega)]
  · rw [if_pos hne]
    have hvv := hv hne
    have F5 : FrQ (fun k x _ => k = 53 ∧ x = q) σ4 (wI σ4 53 q b (nI (setOfQ ρ π.1 b))) := Fr_wI ⟨rfl, rfl⟩
    have h05 := H0_fr h04 F5 (fun k r _ _ _ _ _ w => by omega)
    have H5 : PC (wI σ4 53 q b (nI (setOfQ ρ π.1 b))) q (π.1, upQ π.2.1 b v, π.2.2) := PC_fr H4 F5 (fun k r _ _ w => by omega)
    refine Ok_bind (giveBeds_h h05 hW H5 hb hS) ?_
    rintro ⟨r1, r2⟩ ⟨g1, g2, g3⟩
    try dsimp only at g1 g2 g3 ⊢
    subst g1
    have F6 : FrQ (fun k x _ => k = 54 ∧ x = q) r2 (wI r2 54 q b (nI (disc ρ b (sumNQ (totT ρ b (setOfQ ρ π.1 b) π.1 π.2.2) (prs ρ b))))) := Fr_wI ⟨rfl, rfl⟩
    rw [F6.1 55 q 0 (by omega), rI_wI_self]
    have F7 : FrQ (fun k x _ => (k = 54 ∨ k = 55) ∧ x = q) r2 (wI (wI r2 54 q b (nI (disc ρ b (sumNQ (totT ρ b (setOfQ ρ π.1 b) π.1 π.2.2) (prs ρ b))))) 55 q 0 (rI r2 55 q 0 + nI (disc ρ b (sumNQ (totT ρ b (setOfQ ρ π.1 b) π.1 π.2.2) (prs ρ b))))) := Fr_tr (Fr_wI (by omega)) (Fr_wI (by omega))
    refine ⟨_, rfl, ?_, ⟨fun x hx => ⟨?_, ?_⟩, ?_⟩, Fr_tr FK (Fr_tr (Fr_mono F5 (fun k x r w => ⟨by omega, w.2⟩)) (Fr_tr (Fr_mono g3 (fun k x r w => ⟨by omega, w.2⟩)) (Fr_mono F7 (fun k x r w => ⟨by omega, w.2⟩))))⟩
    · have e : plc1 ρ b π = ((gvS ρ b (setOfQ ρ π.1 b) π.1 π.2.2 (prs ρ b)).1, upQ π.2.1 b (becOf ρ π.1 b), (gvS ρ b (setOfQ ρ π.1 b) π.1 π.2.2 (prs ρ b)).2) := by unfold plc1; rw [if_neg hne]
      rw [e, ← hvv]
      exact PC_fr g2 F7 (fun k r _ _ w => by omega)
    · rw [F7.1 53 q x (by omega), g3.1 53 q x (by omega), rI_wI, if_neg (fun w => hx w.2.2), F4.1 53 q x (by omega)]
    · rw [rI_wI, if_neg (by omega), rI_wI, if_neg (fun w => hx w.2.2), g3.1 54 q x (by omega), F5.1 54 q x (by omega), F4.1 54 q x (by omega)]
    · rw [if_neg hne]
      refine ⟨?_, ?_, ?_, ?_⟩
      · rw [F7.1 53 q b (by omega), g3.1 53 q b (by omega), rI_wI_self]
      · rw [rI_wI, if_neg (by omega), rI_wI_self]
      · rw [rI_wI_self, g3.1 55 q 0 (by omega), F5.1 55 q 0 (by omega), F4.1 55 q 0 (by omega)]
      · rw [F7.1 56 q 0 (by omega), g3.1 56 q 0 (by omega), F5.1 56 q 0 (by omega), F4.1 56 q 0 (by omega)]
theorem place_h (h0 : H0 σ j ρ) (hW : WF ρ) (H : PC σ q π) {b : Nat} (hb : b < ρ 37) : OkQ (fX3_place q j (nI b) σ) (fun σ2 => PC σ2 q (plc1 ρ b π) ∧ PLm σ σ2 q ρ b π ∧ FrQ (KPc q) σ σ2) := by
  have h8 := hW.1
  have h17 := hW.2.1
  have hw := hW.2.2.2.2 b hb
  have hor := orS_le (ρ := ρ) (h := π.1) (b := b) (ρ 4)
  have hor2 : orR ρ π.1 b ≤ 8 := by unfold orR; omega
  unfold fX3_place
  rw [gd_inb (by omega) (by omega), nI_clamp (show b < 2 ^ 31 by omega)]
  refine Ok_bind (countFree_h h0 hW H.1 hb) ?_
  rintro σ1 ⟨c1, F1⟩
  have h01 : H0 σ1 j ρ := H0_fr h0 F1 (fun k r _ _ _ _ _ w => by omega)
  have H1 : PC σ1 q π := PC_fr H F1 (fun k r _ _ w => by omega)
  simp only [l_0, l_1, l_2]
  rw [oneRoom_h h01 hW hb c1, Option.bind_some]
  have hB1 := h01.2.2.2.2.2.2.2.2 b hb
  have G1 : FrQ (fun k x _ => (k = 52 ∨ k = 57) ∧ x = q) σ (wI σ1 52 q b (nI 1)) := Fr_tr (Fr_mono F1 (fun k x r w => by omega)) (Fr_wI (by omega))
  have P1 := PC_bec (σ2 := σ1) (b := b) (v := 1) H1
  have e47 : rI (wI σ1 52 q b (nI 1)) 47 j b = nI (bkv ρ b 6) := by rw [rI_wI, if_neg (by omega)]; exact hB1.2.2.2.2.2.2.2.1
  have h6 := hw.2.2.2.2.2.1
  by_cases q1 : orR ρ π.1 b = 0
  · have hset : setOfQ ρ π.1 b = if bkv ρ b 6 = 1 then 0 else stRQ ρ π.1 b := by unfold setOfQ; rw [if_pos q1]
    have hbec : becOf ρ π.1 b = if setOfQ ρ π.1 b = 0 then 3 else 2 := by unfold becOf; rw [if_pos q1]
    rw [if_pos q1, if_neg (fun w => w rfl), e47]; simp (disch := omega) only [nI_eq]
    by_cases q2 : bkv ρ b 6 = 1
    · rw [if_pos q2] at hset
      rw [if_pos (by omega), ← hset]
      exact placeEnd_h h0 hW hb G1 P1 (fun w => absurd hset w)
    · rw [if_neg q2] at hset
      have G1b : FrQ (fun k x _ => k = 52 ∧ x = q) σ1 (wI σ1 52 q b (nI 1)) := Fr_wI ⟨rfl, rfl⟩
      rw [if_neg (by omega), fewest_h (h := π.1) (H0_fr h01 G1b (fun k r _ _ _ _ _ w => by omega)) hW hb (fun r hr => by rw [G1b.1 57 q r (by omega)]; exact c1 r hr), Option.bind_some, ← hset]
      have G2 : FrQ (fun k x _ => (k = 52 ∨ k = 57) ∧ x = q) σ (wI (wI σ1 52 q b (nI 1)) 52 q b (nI 2)) := Fr_tr G1 (Fr_wI (by omega))
      have P2 := PC_bec (σ2 := σ1) (b := b) (v := 2) P1
      rw [up_up] at P2
      exact placeEnd_h h0 hW hb G2 P2 (fun w => by rw [hbec, if_neg w])
  · have hset : setOfQ ρ π.1 b = 2 ^ (orR ρ π.1 b - 1) := by unfold setOfQ; rw [if_neg q1]
    have hbec : becOf ρ π.1 b = 1 := by unfold becOf; rw [if_neg q1]
    have hpp := pow_pos (orR ρ π.1 b - 1)
    have hpw : 2 ^ (orR ρ π.1 b - 1) ≤ 2 ^ 7 := Nat.pow_le_pow_right (by omega) (by omega)
    rw [if_neg q1, if_pos (nI_ne (by omega) (by omega) (by omega)), ← hset]
    exact placeEnd_h h0 hW hb G1 P1 (fun _ => hbec.symm)
theorem PMy_plc1 {σ2 : Mem} (hW : WF ρ) {b : Nat} (hb : b < ρ 37) (hz : π.2.1 b = 0) (hM : PMy σ q ρ π) (hL : PLm σ σ2 q ρ b π) : PMy σ2 q ρ (plc1 ρ b π) := by
  obtain ⟨m1, m2, m3⟩ := hM
  obtain ⟨l1, l2⟩ := hL
  have z1 : rbO ρ π b = 0 := by unfold rbO; rw [hz, if_neg (by omega)]
  have z2 : pdB ρ π b = 0 := by unfold pdB; rw [hz, if_neg (by omega)]
  have z3 : wkB ρ π b = 0 := by unfold wkB; rw [hz, if_neg (by omega)]
  have s1 := sumN_up (f := pdB ρ (plc1 ρ b π)) (g := pdB ρ π) (n := ρ 37) (k := b) hb (fun i hi hne => (plc1_ne hW hb hne hi).2.1)
  have s2 := sumN_up (f := wkB ρ (plc1 ρ b π)) (g := wkB ρ π) (n := ρ 37) (k := b) hb (fun i hi hne => (plc1_ne hW hb hne hi).2.2)
  rw [z2, Nat.add_zero] at s1
  rw [z3, Nat.add_zero] at s2
  by_cases hne : setOfQ ρ π.1 b = 0
  · rw [if_pos hne] at l2
    obtain ⟨a1, a2, a3, a4⟩ := l2
    obtain ⟨w0, w1, w2, w3⟩ := plc1_wk (ρ := ρ) (π := π) hne
    rw [w2, Nat.add_zero] at s1
    rw [w3] at s2
    refine ⟨fun x hx => ?_, by rw [a3, m2, s1], by rw [a4, m3, nI_add, s2]⟩
    by_cases hxb : x = b
    · subst hxb
      rw [w1, w2, a1, a2]
      have := m1 x hx
      rw [z1, z2] at this
      exact this
    · obtain ⟨n1, n2, -⟩ := plc1_ne (π := π) hW hb hxb hx
      rw [n1, n2, (l1 x hxb).1, (l1 x hxb).2]
      exact m1 x hx
  · rw [if_neg hne] at l2
    obtain ⟨a1, a2, a3, a4⟩ := l2
    obtain ⟨w0, w1, w2, w3⟩ := plc1_eq (π := π) hW hb hne
    rw [w2] at s1
    rw [w3, Nat.add_zero] at s2
    refine ⟨fun x hx => ?_, by rw [a3, m2, nI_add, s1], by rw [a4, m3, s2]⟩
    by_cases hxb : x = b
    · subst hxb
      rw [w1, w2]
      exact ⟨a1, a2⟩
    · obtain ⟨n1, n2, -⟩ := plc1_ne (π := π) hW hb hxb hx
      rw [n1, n2, (l1 x hxb).1, (l1 x hxb).2]
      exact m1 x hx
theorem make_h (h0 : H0 σ j ρ) (ht : Ht σ j ρ) (hW : WF ρ) : OkQ (fX3_make q j σ) (fun σ2 => PC σ2 q (plc ρ) ∧ PMy σ2 q ρ (plc ρ) ∧ FrQ (KPc q) σ σ2) := by
  have h17 := hW.2.1
  have hl1 : OkQ (loop (stX3_clear_2 q) 5000 (nI 0, σ)) (fun s => (∀ i, i < 80 → rI s 50 q i = nI 0) ∧ FrQ (KPc q) σ s) := by
    refine loop_ok 80 (fun k a => a.1 = nI k ∧ (∀ i, i < k → rI a.2 50 q i = nI 0) ∧ FrQ (KPc q) σ a.2) (by omega) ⟨rfl, fun i hi => absurd hi (Nat.not_lt_zero _), Fr_rfl σ⟩ ?_
    rintro k ⟨a1, a2⟩ hk ⟨e1, e2, F⟩
    try dsimp only at e1 e2 F
    subst e1
    unfold stX3_clear_2
    simp only [l_0, l_1, l_80]
    by_cases hkn : k = 80
    · subst hkn
      rw [if_pos (nI_le (Nat.le_refl _) (by omega))]
      exact ⟨_, rfl, e2, F⟩
    · rw [if_neg (nI_ge (by omega) (by omega)), gd_inb (by omega) (by omega), nI_clamp (by omega), nI_add]
      refine ⟨_, rfl, by omega, rfl, fun i hi => ?_, Fr_tr F (Fr_wI ⟨by omega, rfl⟩)⟩
      show rI (wI a2 50 q k (nI 0)) 50 q i = _
      rw [rI_wI]
      by_cases h : i = k
      · subst h; rw [if_pos ⟨rfl, rfl, rfl⟩]
      · rw [if_neg (fun w => h w.2.2)]; exact e2 i (by omega)
  have hl2 : ∀ s1, (∀ i, i < 80 → rI s1 50 q i = nI 0) → FrQ (KPc q) σ s1 → OkQ (loop (stX3_clear_26 q) 5000 (nI 0, s1)) (fun s => (∀ i, i < 80 → rI s 50 q i = nI 0) ∧ (∀ i, i < 17 → rI s 52 q i = nI 0 ∧ rI s 53 q i = nI 0 ∧ rI s 54 q i = nI 0) ∧ FrQ (KPc q) σ s) := by
    intro s1 z1 z2
    refine loop_ok 17 (fun k a => a.1 = nI k ∧ (∀ i, i < 80 → rI a.2 50 q i = nI 0) ∧ (∀ i, i < k → rI a.2 52 q i = nI 0 ∧ rI a.2 53 q i = nI 0 ∧ rI a.2 54 q i = nI 0) ∧ FrQ (KPc q) σ a.2) (by omega) ⟨rfl, z1, fun i hi => absurd hi (Nat.not_lt_zero _), z2⟩ ?_
    rintro k ⟨a1, a2⟩ hk ⟨e1, e3, e2, F⟩
    try dsimp only at e1 e2 e3 F
    subst e1
    unfold stX3_clear_26
    simp only [l_0, l_1, l_17]
    by_cases hkn : k = 17
    · subst hkn
      rw [if_pos (nI_le (Nat.le_refl _) (by omega))]
      exact ⟨_, rfl, e3, e2, F⟩
    · rw [if_neg (nI_ge (by omega) (by omega)), gd_inb (by omega) (by omega), nI_clamp (by omega), nI_add]
      refine ⟨_, rfl, by omega, rfl, fun i hi => ?_, fun i hi => ?_, Fr_tr F (Fr_tr (Fr_wI ⟨by omega, rfl⟩) (Fr_tr (Fr_wI ⟨by omega, rfl⟩) (Fr_wI ⟨by omega, rfl⟩)))⟩
      · show rI (wI (wI (wI a2 52 q k (nI 0)) 53 q k (nI 0)) 54 q k (nI 0)) 50 q i = _
        rw [rI_wI, if_neg (by omega), rI_wI, if_neg (by omega), rI_wI, if_neg (by omega)]
        exact e3 i hi
      · show rI (wI (wI (wI a2 52 q k (nI 0)) 53 q k (nI 0)) 54 q k (nI 0)) 52 q i = _ ∧ rI (wI (wI (wI a2 52 q k (nI 0)) 53 q k (nI 0)) 54 q k (nI 0)) 53 q i = _ ∧ rI (wI (wI (wI a2 52 q k (nI 0)) 53 q k (nI 0)) 54 q k (nI 0)) 54 q i = _
        by_cases h : i = k
        · subst h
          exact ⟨by simp [rI_wI], by simp [rI_wI], by simp [rI_wI]⟩
        · have := e2 i (by omega)
          simp only [rI_wI, h, and_false, if_false]
          exact this
  have hin : ∀ (n : Nat) (s : Mem) (π : PnQ), n < 30 → PC s q π → PMy s q ρ π → (∀ b, π.2.1 b ≠ 0 → bkv ρ b 0 < n) → FrQ (KPc q) σ s → OkQ (loop (stX3_make_14 j (nI n, s) q) 5000 (nI 0, s)) (fun s2 => PC s2 q (plB ρ n π (ρ 37)) ∧ PMy s2 q ρ (plB ρ n π (ρ 37)) ∧ FrQ (KPc q) σ s2) := by
    intro n s π hn c1 c2 c3 c4
    refine loop_ok (ρ 37) (fun k a => a.1 = nI k ∧ PC a.2 q (plB ρ n π k) ∧ PMy a.2 q ρ (plB ρ n π k) ∧ FrQ (KPc q) σ a.2) (by omega) ⟨rfl, c1, c2, c4⟩ ?_
    rintro k ⟨a1, a2⟩ hk ⟨e1, P2, M2, F2⟩
    try dsimp only at e1 P2 M2 F2
    subst e1
    have h0' := H0_pl h0 F2
    have ht' := Ht_pl ht F2
    unfold stX3_make_14 jX3_make_62
    try dsimp only
    simp only [l_0, l_1]
    rw [h0'.2.2.1]
    by_cases hkn : k = ρ 37
    · subst hkn
      rw [if_pos (nI_le (Nat.le_refl _) (by omega))]
      exact ⟨_, rfl, P2, M2, F2⟩
    · have hw := hW.2.2.2.2 k (by omega)
      have hB := h0'.2.2.2.2.2.2.2.2 k (by omega)
      have w8 := hw.2.2.2.2.2.2.2
      have w7 := hw.2.2.2.2.2.2.1
      have w0 := hw.1
      have eS : plB ρ n π (k + 1) = if isPl ρ k n = true then plc1 ρ k (plB ρ n π k) else plB ρ n π k := rfl
      rw [if_neg (nI_ge (by omega) (by omega)), gd_inb (by omega) (by omega), nI_clamp (by omega), hB.1, ht' k (by omega), hB.2.2.2.2.2.2.2.2]; simp (disch := omega) only [nI_eq]; rw [nI_add]
      have hskip : isPl ρ k n ≠ true → OkQ (some (Sum.inl (nI (k + 1), a2)) : Option ((Int32 × Mem) ⊕ Mem)) (fun r => Sum.elim (fun a2 => k < ρ 37 ∧ a2.1 = nI (k + 1) ∧ PC a2.2 q (plB ρ n π (k + 1)) ∧ PMy a2.2 q ρ (plB ρ n π (k + 1)) ∧ FrQ (KPc q) σ a2.2) (fun s2 => PC s2 q (plB ρ n π (ρ 37)) ∧ PMy s2 q ρ (plB ρ n π (ρ 37)) ∧ FrQ (KPc q) σ s2) r) := by
        intro w
        rw [if_neg w] at eS
        exact ⟨_, rfl, by omega, rfl, by rw [eS]; exact P2, by rw [eS]; exact M2, F2⟩
      by_cases q1 : bkv ρ k 0 = n
      · rw [if_neg (fun w => w q1)]
        by_cases q2 : bkv ρ k 8 = 1
        · rw [if_neg (fun w => w q2)]
          by_cases q3 : bkv ρ k 7 = 0
          · rw [if_neg (fun w => w q3)]
            have hpl : isPl ρ k n = true := decide_eq_true ⟨q2, q3, q1⟩
            rw [if_pos hpl] at eS
            refine Ok_bind (place_h h0' hW P2 (by omega)) ?_
            rintro s2 ⟨g1, g2, g3⟩
            exact ⟨_, rfl, by omega, rfl, by rw [eS]; exact g1, by rw [eS]; exact PMy_plc1 hW (by omega) (plB_0 c3 hpl) M2 g2, Fr_tr F2 g3⟩
          · rw [if_pos q3]
            exact hskip (fun w => q3 (of_decide_eq_true w).2.1)
        · rw [if_pos q2]
          exact hskip (fun w => q2 (of_decide_eq_true w).1)
      · rw [if_pos q1]
        exact hskip (fun w => q1 (of_decide_eq_true w).2.2)
  have hl3 : ∀ s : Mem, PC s q (plN ρ 0) → PMy s q ρ (plN ρ 0) → FrQ (KPc q) σ s → OkQ (loop (stX3_make_6 j q) 5000 (nI 0, s)) (fun s2 => PC s2 q (plc ρ) ∧ PMy s2 q ρ (plc ρ) ∧ FrQ (KPc q) σ s2) := by
    intro s c1 c2 c4
    refine loop_ok 30 (fun k a => a.1 = nI k ∧ PC a.2 q (plN ρ k) ∧ PMy a.2 q ρ (plN ρ k) ∧ FrQ (KPc q) σ a.2) (by omega) ⟨rfl, c1, c2, c4⟩ ?_
    rintro k ⟨a1, a2⟩ hk ⟨e1, P2, M2, F2⟩
    try dsimp only at e1 P2 M2 F2
    subst e1
    unfold stX3_make_6
    try dsimp only
    simp only [l_0, l_1, l_30]
    by_cases hkn : k = 30
    · subst hkn
      rw [if_pos (nI_le (Nat.le_refl _) (by omega))]
      exact ⟨_, rfl, P2, M2, F2⟩
    · rw [if_neg (nI_ge (by omega) (by omega))]
      refine Ok_bind (hin k a2 (plN ρ k) (by omega) P2 M2 (plN_seen ρ k) F2) ?_
      rintro s2 ⟨g1, g2, g3⟩
      rw [nI_add]
      exact ⟨_, rfl, by omega, rfl, g1, g2, g3⟩
  have hcl : OkQ (fX3_clear q σ) (fun s => PC s q (plN ρ 0) ∧ PMy s q ρ (plN ρ 0) ∧ FrQ (KPc q) σ s) := by
    unfold fX3_clear
    simp only [l_0]
    refine Ok_bind hl1 ?_
    rintro m1 ⟨x1, x2⟩
    refine Ok_bind (hl2 m1 x1 x2) ?_
    rintro m2 ⟨y0, y1, y2⟩
    have F6 : FrQ (fun k x _ => (k = 55 ∨ k = 56) ∧ x = q) m2 (wI (wI m2 55 q 0 (nI 0)) 56 q 0 (nI 0)) := Fr_tr (Fr_wI (by omega)) (Fr_wI (by omega))
    refine ⟨_, rfl, ⟨fun x hx => ⟨0, by omega, by rw [F6.1 50 q x (by omega)]; exact y0 x hx, fun n hn => ?_⟩, fun b hb => by rw [F6.1 52 q b (by omega)]; exact (y1 b hb).1, fun i hi h => absurd rfl h⟩, ⟨fun x hx => ⟨?_, ?_⟩, ?_, ?_⟩, Fr_tr y2 (Fr_mono F6 (fun k x r w => ⟨by omega, w.2⟩))⟩
    · rw [Nat.zero_testBit] <;> rfl
    · rw [F6.1 53 q x (by omega), (y1 x (by omega)).2.1] <;> rfl
    · rw [F6.1 54 q x (by omega), (y1 x (by omega)).2.2] <;> rfl
    · rw [rI_wI, if_neg (by omega), rI_wI_self, sumN_zero (f := pdB ρ (plN ρ 0)) (fun _ _ => rfl)]
    · rw [rI_wI_self, sumN_zero (f := wkB ρ (plN ρ 0)) (fun _ _ => rfl)]
  unfold fX3_make
  simp only [l_0]
  refine Ok_bind hcl ?_
  rintro m ⟨k1, k2, k3⟩
  refine Ok_bind (hl3 m k1 k2 k3) ?_
  intro s2 h2
  exact ⟨_, rfl, h2⟩
end
