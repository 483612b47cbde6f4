/-! layer 2: edits: what is recorded before them -/
theorem copyRow_s {μ : Mem} {a b : Nat} {ρ : RwQ} (ha : a < 12) (hb : b < 12) (hab : a ≠ b) (hr : ∀ k, k < 208 → rI μ 61 0 (208 * a + k) = nI (ρ k)) : OkQ (fX6_copyRow (nI a) (nI b) μ) (fun μ2 => (∀ k, k < 208 → rI μ2 61 0 (208 * b + k) = nI (ρ k)) ∧ FrQ (fun k j r => k = 61 ∧ j = 0 ∧ 208 * b ≤ r ∧ r < 208 * b + 208) μ μ2) := by
  have hl : OkQ (loop (stX6_copyRow_2 (nI a) (nI b)) 5000 (nI 0, μ)) (fun μ2 => (∀ k, k < 208 → rI μ2 61 0 (208 * b + k) = nI (ρ k)) ∧ FrQ (fun k j r => k = 61 ∧ j = 0 ∧ 208 * b ≤ r ∧ r < 208 * b + 208) μ μ2) := by
    refine loop_ok 208 (fun k q => q.1 = nI k ∧ (∀ i, i < k → rI q.2 61 0 (208 * b + i) = nI (ρ i)) ∧ FrQ (fun k j r => k = 61 ∧ j = 0 ∧ 208 * b ≤ r ∧ r < 208 * b + 208) μ q.2) (by omega) ⟨rfl, fun i hi => absurd hi (Nat.not_lt_zero _), Fr_rfl μ⟩ ?_
    rintro k ⟨x1, x2⟩ hk ⟨e1, e2, F⟩
    try dsimp only at e1 e2 F
    subst e1
    unfold stX6_copyRow_2
    simp only [l_1, l_208]
    by_cases hkn : k = 208
    · subst hkn
      rw [if_pos (nI_le (Nat.le_refl _) (by omega))]
      exact ⟨_, rfl, e2, F⟩
    · have hsrc : rI x2 61 0 (208 * a + k) = nI (ρ k) := by rw [F.1 61 0 _ (by omega)]; exact hr k (by omega)
      rw [if_neg (nI_ge (by omega) (by omega))]
      simp only [pk_mul, nI_add]
      rw [gd_inb (by omega) (by omega), gd_inb (by omega) (by omega), nI_clamp (by omega), nI_clamp (by omega), hsrc]
      refine ⟨_, rfl, by omega, rfl, fun i hi => ?_, Fr_tr F (Fr_wI ⟨rfl, rfl, by omega, by omega⟩)⟩
      show rI (wI x2 61 0 (208 * b + k) (nI (ρ k))) 61 0 (208 * b + i) = _
      rw [rI_wI]
      by_cases h : i = k
      · subst h; rw [if_pos ⟨rfl, rfl, rfl⟩]
      · rw [if_neg (by omega)]; exact e2 i (by omega)
  unfold fX6_copyRow
  simp only [l_0]
  refine Ok_bind hl ?_
  intro μ2 h2
  exact ⟨_, rfl, h2⟩
/-- the class's changes before an edit, and the reference's -/
def KRc (k x _r : Nat) : Prop := k = 2 ∨ k = 3 ∨ ((20 ≤ k ∧ k ≤ 49) ∧ 2 ≤ x)
def KRm (k _j r : Nat) : Prop := k = 63 ∨ k = 64 ∨ (k = 61 ∧ 416 ≤ r)
theorem rem_keep {σ μ : Mem} {ρ : RwQ} (h1 : I1 σ ρ) (C : Cur μ 0 ρ) (h3 : I3 ρ) (hN : Nms σ μ (rP σ 0) ρ) (h5 : I5 σ μ ρ) : ∃ σ2 μ2, fX5_remember σ = some σ2 ∧ fX6_keep μ = some μ2 ∧ I5 σ2 μ2 ρ ∧ FrG KRc (fun k x _ => (k = 1 ∨ k = 2) ∧ 2 ≤ x) σ σ2 ∧ FrQ KRm μ μ2 := by
  obtain ⟨e, f, pn, hist, a1, a2, a3, a4, a5, a6, a7, a8⟩ := h5
  have hlt := I1_lt h1
  have hP := h1.1
  -- the class
  obtain ⟨σ1, c0, c1, c2, c3, c4⟩ := copy_h (σ := σ) (j := pn + 2) (j1 := rP σ 0) (ρ := ρ) (by omega) h1.2.1 h3.1 h3.2.1.2.1
  have g2 : rI σ1 2 0 0 = nI pn := by rw [c4.1 2 0 0 (by unfold KHQ; omega)]; exact a5
  have g3 : rI σ1 3 0 0 = nI e := by rw [c4.1 3 0 0 (by unfold KHQ; omega)]; exact a4
  have hcl : fX5_remember σ = some (wI (wI σ1 2 0 0 (nI ((pn + 1) % 10))) 3 0 0 (nI (if e = 10 then 10 else e + 1))) := by
    have hmin : ∀ t : Int32, (if nI 10 < rI (wI σ1 2 0 0 t) 3 0 0 + nI 1 then nI 10 else rI (wI σ1 2 0 0 t) 3 0 0 + nI 1) = nI (if e = 10 then 10 else e + 1) := by
      intro t
      rw [rI_wI_ne (by omega), g3, nI_add]
      by_cases q : e = 10
      · rw [if_pos q, if_pos (nI_lt (by omega) (by omega))]
      · rw [if_neg q, if_neg (nI_nlt (by omega) (by omega))]
    unfold fX5_remember jX5_remember_41
    rw [a5, gd_inb (by omega) (by omega), gd_pos hlt, nI_clamp (by omega), c0, Option.bind_some]
    simp only [l_0, l_1, l_10]
    rw [hmin, hmin, g2, nI_add, nI_sub1 (by omega)]; simp (disch := omega) only [nI_eq]
    by_cases q : pn = 9
    · rw [if_neg (fun w => w q), q]
    · rw [if_pos q, show (pn + 1) % 10 = pn + 1 by omega]
  -- the reference
  obtain ⟨f', hf'⟩ : ∃ f', f' = (if e = 10 then (f + 1) % 10 else f) := ⟨_, rfl⟩
  obtain ⟨e', he'⟩ : ∃ e', e' = (if e = 10 then 9 else e) := ⟨_, rfl⟩
  have hf10 : f' < 10 := by rw [hf']; split <;> omega
  have he9 : e' ≤ 9 := by rw [he']; split <;> omega
  have hslot : ∀ m : Mem, rI m 63 0 0 = nI e' → rI m 64 0 0 = nI f' → Cur m 0 ρ → OkQ (jX6_keep_32 m) (fun μ2 => (∀ k, k < 208 → rI μ2 61 0 (208 * (2 + (f' + e') % 10) + k) = nI (ρ k)) ∧ rI μ2 63 0 0 = nI (e' + 1) ∧ rI μ2 64 0 0 = nI f' ∧ FrQ (fun k j r => k = 63 ∨ (k = 61 ∧ j = 0 ∧ 208 * (2 + (f' + e') % 10) ≤ r ∧ r < 208 * (2 + (f' + e') % 10) + 208)) m μ2) := by
    intro m m1 m2 m3
    unfold jX6_keep_32 fX6_slot
    simp only [l_0, l_1, l_2, l_10, Option.bind_some]
    rw [m1, m2, nI_add, pk_rem (by omega) (by omega) (by omega), nI_add]
    refine Ok_bind (copyRow_s (a := 0) (b := 2 + (f' + e') % 10) (ρ := ρ) (by omega) (by omega) (by omega) (fun k hk => m3.2.2 k hk)) ?_
    rintro m4 ⟨d1, d2⟩
    rw [d2.1 63 0 0 (by omega), m1, nI_add]
    refine ⟨_, rfl, fun k hk => ?_, rI_wI_self, ?_, Fr_tr (Fr_mono d2 (fun k j r w => Or.inr w)) (Fr_wI (Or.inl rfl))⟩
    · rw [rI_wI_ne (by omega)]; exact d1 k hk
    · rw [rI_wI_ne (by omega), d2.1 64 0 0 (by omega)]; exact m2
  have hre : OkQ (fX6_keep μ) (fun μ2 => (∀ k, k < 208 → rI μ2 61 0 (208 * (2 + (f' + e') % 10) + k) = nI (ρ k)) ∧ rI μ2 63 0 0 = nI (e' + 1) ∧ rI μ2 64 0 0 = nI f' ∧ FrQ (fun k j r => k = 63 ∨ k = 64 ∨ (k = 61 ∧ j = 0 ∧ 208 * (2 + (f' + e') % 10) ≤ r ∧ r < 208 * (2 + (f' + e') % 10) + 208)) μ μ2) := by
    unfold fX6_keep
    simp only [l_1, l_10]
    rw [a6]; simp (disch := omega) only [nI_eq]
    by_cases q : e = 10
    · rw [if_pos q] at hf' he'
      have F0 : FrQ (fun k j r => k = 63 ∨ k = 64) μ (wI (wI μ 64 0 0 (nI f')) 63 0 0 (nI e')) := Fr_tr (Fr_wI (Or.inr rfl)) (Fr_wI (Or.inl rfl))
      have h63 : rI (wI μ 64 0 0 (nI f')) 63 0 0 = nI 10 := by rw [rI_wI_ne (by omega), a6, q]
      rw [if_neg (fun w => w q), a7, nI_add, pk_rem (by omega) (by omega) (by omega), ← hf', h63, nI_sub1 (by omega), show 10 - 1 = e' by omega]
      refine Ok_mono (hslot _ rI_wI_self (by rw [rI_wI_ne (by omega), rI_wI_self]) (Cur_fr C F0 (by omega) (fun r _ _ => by omega))) ?_
      rintro μ2 ⟨d1, d2, d3, d4⟩
      exact ⟨d1, d2, d3, Fr_tr (Fr_mono F0 (fun k j r w => w.elim Or.inl (fun z => Or.inr (Or.inl z)))) (Fr_mono d4 (fun k j r w => w.elim Or.inl (fun z => Or.inr (Or.inr z))))⟩
    · rw [if_neg q] at hf' he'
      subst hf' he'
      rw [if_pos q]
      refine Ok_mono (hslot μ a6 a7 C) ?_
      rintro μ2 ⟨d1, d2, d3, d4⟩
      exact ⟨d1, d2, d3, Fr_mono d4 (fun k j r w => w.elim Or.inl (fun z => Or.inr (Or.inr z)))⟩
  obtain ⟨μ2, r0, r1, r2, r3, r4⟩ := hre
  obtain ⟨σ2, hσ2⟩ : ∃ s, s = wI (wI σ1 2 0 0 (nI ((pn + 1) % 10))) 3 0 0 (nI (if e = 10 then 10 else e + 1)) := ⟨_, rfl⟩
  rw [← hσ2] at hcl
  have F2 : FrQ (fun k _ _ => k = 2 ∨ k = 3) σ1 σ2 := by rw [hσ2]; exact Fr_tr (Fr_wI (Or.inl rfl)) (Fr_wI (Or.inr rfl))
  have FC : FrG KRc (fun k x _ => (k = 1 ∨ k = 2) ∧ 2 ≤ x) σ σ2 := FrG_tr (FrG_mono c4 (fun k x r w => by unfold KHQ at w; unfold KRc; omega) (fun k x r w => by unfold KJH at w; omega)) (Fr_G (Fr_mono F2 (fun k x r w => by unfold KRc; omega)))
  refine ⟨σ2, μ2, hcl, r0, ?_, FC, Fr_mono r4 (fun k j r w => by unfold KRm; omega)⟩
  -- the ring
  have hJ : ∀ k x r, rJ σ2 k x r = rJ σ1 k x r := fun k x r => Fr_J F2 k x r
  have hJm : ∀ k x r, rJ μ2 k x r = rJ μ k x r := fun k x r => Fr_J r4 k x r
  have hnew : HR σ2 (2 + pn) ρ := HR_fr (by rw [Nat.add_comm]; exact c1) F2 (fun k r _ _ w => by omega)
  have hnewN : Nms σ2 μ2 (2 + pn) ρ := by
    refine ⟨fun r hr => ?_, fun b hb => ?_⟩
    · rw [hJ, hJm, Nat.add_comm 2 pn, c2 r hr]; exact hN.1 r hr
    · rw [hJ, hJm, Nat.add_comm 2 pn, c3 b hb]; exact hN.2 b hb
  have hold : ∀ (i : Nat) (ρ' : RwQ), i ≠ 2 + pn → HR σ i ρ' → HR σ2 i ρ' := by
    intro i ρ' hi h
    have hh := HR_fr (K := KHQ (pn + 2)) (σ2 := (σ1.1, σ.2)) h (FrG_I c4) (fun k r _ _ w => by unfold KHQ at w; omega)
    exact HR_fr (show HR σ1 i ρ' from hh) F2 (fun k r _ _ w => by omega)
  have holdN : ∀ (i : Nat) (ρ' : RwQ), i ≠ 2 + pn → Nms σ μ i ρ' → Nms σ2 μ2 i ρ' := by
    intro i ρ' hi h
    refine ⟨fun r hr => ?_, fun b hb => ?_⟩
    · rw [hJ, hJm, c4.2.1 1 i r (by unfold KJH; omega)]; exact h.1 r hr
    · rw [hJ, hJm, c4.2.1 2 i b (by unfold KJH; omega)]; exact h.2 b hb
  have s3 : rI σ2 3 0 0 = nI (if e = 10 then 10 else e + 1) := by rw [hσ2, rI_wI_self]
  have s2 : rI σ2 2 0 0 = nI ((pn + 1) % 10) := by rw [hσ2, rI_wI_ne (by omega), rI_wI_self]
  by_cases q : e = 10
  · rw [if_pos q] at hf' he' s3
    refine ⟨10, f', (pn + 1) % 10, fun k => if k = 9 then ρ else hist (k + 1), by omega, hf10, by omega, s3, s2, by rw [r2, he'], r3, fun k hk => ?_⟩
    try dsimp only
    by_cases hk9 : k = 9
    · rw [if_pos hk9]
      refine ⟨h3, fun i hi hi2 => ?_, Nat.le_refl _, ?_, fun i hi => ?_, ?_⟩
      · rw [if_pos (by omega)]; exact Nat.le_refl _
      · rw [show 2 + ((pn + 1) % 10 + 10 - 10 + k) % 10 = 2 + pn by omega]; exact hnew
      · rw [show (f' + k) % 10 = (f' + e') % 10 by omega]; exact r1 i hi
      · rw [show 2 + ((pn + 1) % 10 + 10 - 10 + k) % 10 = 2 + pn by omega]; exact hnewN
    · rw [if_neg hk9]
      obtain ⟨d1, d2, d3, d4, d5, d6⟩ := a8 (k + 1) (by omega)
      have ei : 2 + ((pn + 1) % 10 + 10 - 10 + k) % 10 = 2 + (pn + 10 - e + (k + 1)) % 10 := by omega
      have ef : (f' + k) % 10 = (f + (k + 1)) % 10 := by omega
      refine ⟨d1, fun i hi hi2 => ?_, d3, ?_, fun i hi => ?_, ?_⟩
      · by_cases hi9 : i = 9
        · rw [if_pos hi9]; exact d3
        · rw [if_neg hi9]; exact d2 (i + 1) (by omega) (by omega)
      · rw [ei]; exact hold _ _ (by omega) d4
      · rw [r4.1 61 0 _ (by omega), ef]; exact d5 i hi
      · rw [ei]; exact holdN _ _ (by omega) d6
  · rw [if_neg q] at hf' he' s3
    subst hf' he'
    refine ⟨e' + 1, f', (pn + 1) % 10, fun k => if k = e' then ρ else hist k, by omega, a2, by omega, s3, s2, r2, r3, fun k hk => ?_⟩
    try dsimp only
    by_cases hke : k = e'
    · rw [if_pos hke]
      refine ⟨h3, fun i hi hi2 => ?_, Nat.le_refl _, ?_, fun i hi => ?_, ?_⟩
      · rw [if_pos (by omega)]; exact Nat.le_refl _
      · rw [show 2 + ((pn + 1) % 10 + 10 - (e' + 1) + k) % 10 = 2 + pn by omega]; exact hnew
      · rw [hke]; exact r1 i hi
      · rw [show 2 + ((pn + 1) % 10 + 10 - (e' + 1) + k) % 10 = 2 + pn by omega]; exact hnewN
    · rw [if_neg hke]
      obtain ⟨d1, d2, d3, d4, d5, d6⟩ := a8 k (by omega)
      have ei : 2 + ((pn + 1) % 10 + 10 - (e' + 1) + k) % 10 = 2 + (pn + 10 - e' + k) % 10 := by omega
      refine ⟨d1, fun i hi hi2 => ?_, d3, ?_, fun i hi => ?_, ?_⟩
      · by_cases hie : i = e'
        · rw [if_pos hie]; exact d3
        · rw [if_neg hie]; exact d2 i hi (by omega)
      · rw [ei]; exact hold _ _ (by omega) d4
      · rw [r4.1 61 0 _ (by omega)]; exact d5 i hi
      · rw [ei]; exact holdN _ _ (by omega) d6
