/-! layer 2: the best overbooking, the class -/
def nO (ρ : RwQ) (o : Nat) : Int32 := netV (anR ρ o)
def boS (ρ : RwQ) : Nat → Nat × Int32
  | 0 => (0, 0)
  | k + 1 => if (boS ρ k).1 = 0 ∨ (boS ρ k).2 < nO ρ k then (k + 1, nO ρ k) else boS ρ k
def hsB (σ : Mem) (j : Nat) (ρ : RwQ) : Prop := ∀ b, b < ρ 37 → ∃ v, v ≤ 2 ∧ rI σ 49 j b = nI v ∧ (v = 2 ↔ bkv ρ b 8 = 2)
section
variable {σ μ : Mem} {ρ : RwQ} {j o : Nat}
theorem boS_facts : ∀ k, (boS ρ k).1 ≤ k ∧ (k ≠ 0 → 1 ≤ (boS ρ k).1 ∧ nO ρ (k - 1) ≤ (boS ρ k).2) := by
  intro k
  induction k with
  | zero => exact ⟨Nat.le_refl _, fun h => absurd rfl h⟩
  | succ k ih =>
    have e : boS ρ (k + 1) = if (boS ρ k).1 = 0 ∨ (boS ρ k).2 < nO ρ k then (k + 1, nO ρ k) else boS ρ k := rfl
    rw [e, Nat.add_sub_cancel]
    by_cases q : (boS ρ k).1 = 0 ∨ (boS ρ k).2 < nO ρ k
    · rw [if_pos q]
      exact ⟨Nat.le_refl _, fun _ => ⟨by omega, Int32.le_refl _⟩⟩
    · rw [if_neg q]
      exact ⟨by omega, fun _ => ⟨by have : ¬ (boS ρ k).1 = 0 := fun z => q (Or.inl z); omega, Int32.not_lt.mp (fun z => q (Or.inr z))⟩⟩
theorem tellAnew_h (h3 : I3 ρ) (ho : o ≤ 50) (h0 : H0 σ j (upQ ρ 0 o)) (hs : hsB σ j ρ) : OkQ (fX1_tellAnew j σ) (fun r => r.1 = nI (acN ρ o) ∧ H0 r.2 j (anR ρ o) ∧ Ht r.2 j (anR ρ o) ∧ FrQ (fun k x _ => (k = 23 ∨ k = 28 ∨ k = 29 ∨ k = 49) ∧ x = j) σ r.2) := by
  have h16 := h3.2.2
  have h8 := h3.1.1
  obtain ⟨R, hR⟩ : ∃ R, R = frR ρ o := ⟨_, rfl⟩
  obtain ⟨x1, x2, x3, x4, x5, x6⟩ := frR_facts h3 ho
  rw [← hR] at x1 x2 x3 x4 x5 x6
  have hf := caS_facts x1 (by omega) x3 (fun b hb => x5 b (by omega))
  have hlate := fun {k b : Nat} (hb : b < k) => caS_late x1 (by omega) x3 (fun b hb => x5 b (by omega)) (k := k) (b := b) hb
  have eA : anR ρ o = caS R (ρ 37) := by rw [hR] <;> rfl
  obtain ⟨σ1, g0, g1, g2, G⟩ := forget_h σ j
  have hl : OkQ (loop (stX1_tellAnew_8 j) 5000 (nI 0, nI 0, σ1)) (fun r => r.1 = nI (acN ρ o) ∧ Ht r.2 j (anR ρ o) ∧ FrQ (fun k x _ => (k = 23 ∨ k = 28 ∨ k = 29 ∨ k = 49) ∧ x = j) σ r.2) := by
    refine loop_ok (ρ 37) (fun k q => q.1 = nI (bitsQ (fun b => decide (bkv (anR ρ o) b 8 = 1)) k) ∧ q.2.1 = nI k ∧ HQ q.2.2 j (caS R k) ∧ HC q.2.2 j (caS R k) ∧ (∀ b, b < k → rI q.2.2 49 j b = nI (bkv (caS R k) b 8)) ∧ (∀ b, k ≤ b → rI q.2.2 49 j b = rI σ 49 j b) ∧ FrQ (fun k x _ => (k = 23 ∨ k = 28 ∨ k = 29 ∨ k = 49) ∧ x = j) σ q.2.2) (by omega) ?_ ?_
    · refine ⟨rfl, rfl, ⟨by show _ = nI (R 191); rw [x3]; exact g1, fun k hk => ?_⟩, fun n hn => ?_, fun b hb => absurd hb (Nat.not_lt_zero _), fun b _ => G.1 49 j b (by omega), Fr_mono G (fun k x r z => by omega)⟩
      · have : R 191 = 0 := x3
        exact absurd hk (by show ¬ k < R 191; omega)
      · show _ = nI (bkd R n)
        have : bkd R n = 0 := by
          unfold bkd
          refine sumN_zero (fun b hb => ?_)
          have := x5 b (by omega)
          exact if_neg (fun z => by omega)
        rw [this]; exact g2 n hn
    · rintro k ⟨q1, q2, q3⟩ hk ⟨e1, e2, e3, e4, e5, e6, e7⟩
      try dsimp only at e1 e2 e3 e4 e5 e6 e7
      subst e1 e2
      obtain ⟨i1, i2, i3, i4, i5⟩ := hf k (by omega)
      have hH0 : H0 q3 j (caS R k) := H0_same (H0_fr h0 e7 (fun k r y1 y2 y3 y4 y5 => by omega)) (Same_tr x4 i1) (by rw [up_n (by omega)]; exact h8) (by rw [up_n (by omega)]; omega)
      have hbl := bits_lt (fun b => decide (bkv (anR ρ o) b 8 = 1)) k
      have hpw : 2 ^ k ≤ 2 ^ 16 := Nat.pow_le_pow_right (by omega) (by omega)
      have e37 : caS R k 37 = ρ 37 := by rw [i1.1 37 (by omega), x2]
      unfold stX1_tellAnew_8 jX1_tellAnew_55 jX1_tellAnew_57
      simp only [l_0, l_1, l_2]
      rw [hH0.2.2.1, e37]
      by_cases hkn : k = ρ 37
      · rw [if_pos (nI_le (by omega) (by omega))]
        refine ⟨_, rfl, by rw [hkn] <;> rfl, fun b hb => ?_, e7⟩
        rw [eA] at hb ⊢
        rw [← hkn] at hb ⊢
        rw [e37] at hb
        exact e5 b (by omega)
      · obtain ⟨v, v1, v2, v3⟩ := hs k (by omega)
        rw [if_neg (nI_ge (by omega) (by omega)), gd_inb (by omega) (by omega), nI_clamp (by omega), e6 k (Nat.le_refl _), v2]; simp (disch := omega) only [nI_eq]
        have eb : bitsQ (fun b => decide (bkv (anR ρ o) b 8 = 1)) (k + 1) = bitsQ (fun b => decide (bkv (anR ρ o) b 8 = 1)) k + (if decide (bkv (anR ρ o) k 8 = 1) = true then 2 ^ k else 0) := rfl
        have el : bkv (anR ρ o) k 8 = bkv (caS R (k + 1)) k 8 := by
          rw [eA, ← hlate (k := k + 1) (b := k) (by omega) (ρ 37 - (k + 1)) (by omega), show k + 1 + (ρ 37 - (k + 1)) = ρ 37 by omega]
        have es : caS R (k + 1) = if bkv (caS R k) k 8 = 2 then caS R k else cms (caS R k) k := rfl
        have hi5 := i5 k (by omega)
        by_cases z : v = 2
        · have z2 : bkv (caS R k) k 8 = 2 := hi5.2.mpr ((x6 k (by omega)).mpr (v3.mp z))
          rw [if_pos z]
          rw [if_pos z2] at es
          rw [el, es, z2, if_neg (by decide)] at eb
          have eb' : bitsQ (fun b => decide (bkv (anR ρ o) b 8 = 1)) (k + 1) = bitsQ (fun b => decide (bkv (anR ρ o) b 8 = 1)) k := eb
          refine ⟨_, rfl, by omega, by rw [eb'], nI_add _ _, by rw [es]; exact e3, by rw [es]; exact e4, fun b hb => ?_, fun b hb => e6 b (by omega), e7⟩
          show rI q3 49 j b = _
          by_cases hbk : b = k
          · rw [hbk, e6 k (Nat.le_refl _), v2, es, z2, z]
          · rw [es]; exact e5 b (by omega)
        · have z2 : ¬ bkv (caS R k) k 8 = 2 := fun y => z (v3.mpr ((x6 k (by omega)).mp (hi5.2.mp y)))
          have z0 : bkv (caS R k) k 8 = 0 := by
            rw [i4 k (by omega) (Nat.le_refl _)] at z2 ⊢
            exact (x5 k (by omega)).resolve_right z2
          obtain ⟨σ2, t0, t1, t2, t3, t4⟩ := tell_h i2 (b := k) (by omega) z0 (hH0.2.2.2.2.2.2.2.2 k (by omega)) hH0.2.1 hH0.2.2.2.1 e3 e4 (by omega)
          rw [if_neg z, t0, Option.bind_some, t3]
          rw [if_neg z2] at es
          have hst := cms_st (ρ := caS R k) (b := k) (x := k) (by omega) (by omega) (by omega)
          rw [z0] at hst
          have hle : bkv (cms (caS R k) k) k 8 ≤ 1 := by rw [hst]; split <;> omega
          have FF : FrQ (fun k x _ => (k = 23 ∨ k = 28 ∨ k = 29 ∨ k = 49) ∧ x = j) σ σ2 := Fr_tr e7 (Fr_mono t4 (fun k x r z => by omega))
          have r5 : ∀ b, b < k + 1 → rI σ2 49 j b = nI (bkv (caS R (k + 1)) b 8) := fun b hb => by
            rw [es]
            by_cases hbk : b = k
            · rw [hbk]; exact t3
            · rw [t4.1 49 j b (by omega), cms_st (by omega) (by omega) (by omega), if_neg (by omega)]; exact e5 b (by omega)
          have r6 : ∀ b, k + 1 ≤ b → rI σ2 49 j b = rI σ 49 j b := fun b hb => by rw [t4.1 49 j b (by omega)]; exact e6 b (by omega)
          simp (disch := omega) only [nI_eq]
          rw [el, es] at eb
          by_cases y : bkv (cms (caS R k) k) k 8 = 1
          · rw [if_neg (fun w => w y)]
            rw [decide_eq_true y, if_pos rfl] at eb
            rw [nI_shl (by omega) (by omega), nI_or (by omega) (by omega), Nat.one_mul, or_pow hbl, ← eb]
            exact ⟨_, rfl, by omega, rfl, nI_add _ _, by rw [es]; exact t1, by rw [es]; exact t2, r5, r6, FF⟩
          · rw [if_pos y]
            rw [decide_eq_false y, if_neg (by decide)] at eb
            have eb' : bitsQ (fun b => decide (bkv (anR ρ o) b 8 = 1)) (k + 1) = bitsQ (fun b => decide (bkv (anR ρ o) b 8 = 1)) k := eb
            rw [nI_or (by omega) (by omega), Nat.or_zero, ← eb']
            exact ⟨_, rfl, by omega, rfl, nI_add _ _, by rw [es]; exact t1, by rw [es]; exact t2, r5, r6, FF⟩
  obtain ⟨a1, a2, a3, a4⟩ := anR_facts h3 ho
  unfold fX1_tellAnew
  simp only [l_0]
  rw [g0, Option.bind_some]
  refine Ok_bind hl ?_
  rintro ⟨r1, r2⟩ ⟨y1, y2, y3⟩
  exact ⟨_, rfl, y1, H0_same (H0_fr h0 y3 (fun k r z1 z2 z3 z4 z5 => by omega)) a2 (by rw [up_n (by omega)]; exact h8) (by rw [up_n (by omega)]; omega), y2, y3⟩
theorem H0_over {o2 : Nat} (h0 : H0 σ j (upQ ρ 0 o)) : H0 (wI σ 24 j 0 (nI o2)) j (upQ ρ 0 o2) := by
  have F : FrQ (fun k x r => k = 24 ∧ x = j ∧ r = 0) σ (wI σ 24 j 0 (nI o2)) := Fr_wI ⟨rfl, rfl, rfl⟩
  have e : ∀ i, i ≠ 0 → upQ ρ 0 o2 i = upQ ρ 0 o i := fun i hi => by rw [up_n hi, up_n hi]
  have e2 : ∀ r w, rmv (upQ ρ 0 o2) r w = rmv (upQ ρ 0 o) r w := fun r w => e _ (by omega)
  have e3 : ∀ b w, bkv (upQ ρ 0 o2) b w = bkv (upQ ρ 0 o) b w := fun b w => e _ (by omega)
  have eA : allB (upQ ρ 0 o2) = allB (upQ ρ 0 o) := by
    unfold allB
    rw [e 4 (by omega)]
    exact sumN_congr (fun r _ => e2 r 1)
  obtain ⟨a1, a2, a3, a4, a5, a6, a7, a8, a9⟩ := h0
  refine ⟨?_, ?_, ?_, ?_, ?_, ?_, ?_, fun r hr => ?_, fun b hb => ?_⟩
  · rw [F.1 20 j 0 (by omega), e 4 (by omega)]; exact a1
  · rw [F.1 21 j 0 (by omega), eA]; exact a2
  · rw [F.1 22 j 0 (by omega), e 37 (by omega)]; exact a3
  · rw [rI_wI_self, up_s]
  · rw [F.1 25 j 0 (by omega), e 1 (by omega)]; exact a5
  · rw [F.1 26 j 0 (by omega), e 2 (by omega)]; exact a6
  · rw [F.1 27 j 0 (by omega), e 3 (by omega)]; exact a7
  · rw [e 4 (by omega)] at hr
    have h := HRm_fr (a8 r hr) F (fun k r _ _ => by omega)
    unfold HRm at h ⊢
    rw [e2, e2, e2, e2]; exact h
  · rw [e 37 (by omega)] at hb
    have h := HBk_fr (a9 b hb) F (fun k _ _ => by omega)
    unfold HBk prs at h ⊢
    rw [e3, e3, e3, e3, e3, e3, e3, e3]; exact h
theorem bestOverC_h (h1 : I1 σ ρ) (h3 : I3 ρ) : OkQ (fX5_bestOver σ) (fun r => r.1 = nI ((boS ρ 51).1 - 1) ∧ STQ (rP σ 1) σ r.2) := by
  have h16 := h3.2.2
  have hlt0 := I1_lt h1
  have hlt1 : rP σ 1 < 12 := by have := h1.1.2.1; omega
  obtain ⟨σ1, c0, c1, c2, c3, c4⟩ := copy_h (σ := σ) (j := rP σ 1) (j1 := rP σ 0) h1.1.2.2 h1.2.1 h3.1 h3.2.1.2.1
  have hST1 : STQ (rP σ 1) σ σ1 := ST_G c4 (fun k x r z => Or.inr (Or.inl z)) (fun k x r z => Or.inr z)
  have hup : upQ ρ 0 (ρ 0) = ρ := by
    funext i
    by_cases q : i = 0
    · rw [q, up_s]
    · rw [up_n q]
  have hacn : ∀ o, acN ρ o < 2 ^ 16 := fun o => by
    have h1' := bits_lt (fun b => decide (bkv (anR ρ o) b 8 = 1)) (ρ 37)
    have h2' : 2 ^ (ρ 37) ≤ 2 ^ 16 := Nat.pow_le_pow_right (by omega) (by omega)
    unfold acN
    omega
  have hne : ∀ o, nI (acN ρ o) ≠ -nI 1 := fun o z => by
    rw [← mI_s] at z
    have := (mI_z (v := acN ρ o + 1) (by have := hacn o; omega)).mp z
    omega
  have hl : OkQ (loop stX5_bestOver_20 5000 (nI 0, nI 0, -nI 1, nI 0, σ1)) (fun r => r.1 = nI ((boS ρ 51).1 - 1) ∧ STQ (rP σ 1) σ r.2) := by
    refine loop_ok 51 (fun k q => q.1 = nI ((boS ρ k).1 - 1) ∧ q.2.1 = (boS ρ k).2 ∧ q.2.2.1 = (if k = 0 then -nI 1 else nI (acN ρ (k - 1))) ∧ q.2.2.2.1 = nI k ∧ (∃ o, H0 q.2.2.2.2 (rP σ 1) (upQ ρ 0 o)) ∧ hsB q.2.2.2.2 (rP σ 1) ρ ∧ STQ (rP σ 1) σ q.2.2.2.2) (by omega) ⟨rfl, rfl, rfl, rfl, ⟨ρ 0, by rw [hup]; exact c1.1⟩, fun b hb => ⟨bkv ρ b 8, (h3.1.2.2.2.2 b hb).2.2.2.2.2.2.2, c1.2.1 b hb, Iff.rfl⟩, hST1⟩ ?_
    rintro k ⟨q1, q2, q3, q4, q5⟩ hk ⟨e1, e2, e3, e4, ⟨o, e5⟩, e6, e7⟩
    try dsimp only at e1 e2 e3 e4 e5 e6 e7
    subst e1 e2 e4
    obtain ⟨b1', b2'⟩ := boS_facts (ρ := ρ) k
    unfold stX5_bestOver_20 jX5_bestOver_71 jX5_bestOver_77 jX5_bestOver_80
    simp only [l_1, l_50]
    by_cases hkn : k = 51
    · rw [if_pos (nI_lt (by omega) (by omega))]
      exact ⟨_, rfl, by rw [hkn], e7⟩
    · have hP : rP q5 1 = rP σ 1 := e7.2.2 1
      obtain ⟨σ2, hσ2⟩ : ∃ s, s = wI q5 24 (rP σ 1) 0 (nI k) := ⟨_, rfl⟩
      have hP2 : rP σ2 1 = rP σ 1 := by rw [hσ2]; exact hP
      have F2 : FrQ (fun k x _ => k = 24 ∧ x = rP σ 1) q5 σ2 := by rw [hσ2]; exact Fr_wI ⟨rfl, rfl⟩
      have hk0 : H0 σ2 (rP σ 1) (upQ ρ 0 k) := by rw [hσ2]; exact H0_over e5
      have hs2 : hsB σ2 (rP σ 1) ρ := fun b hb => by
        obtain ⟨v, v1, v2, v3⟩ := e6 b hb
        exact ⟨v, v1, by rw [F2.1 49 _ b (by omega)]; exact v2, v3⟩
      obtain ⟨⟨a, σ3⟩, t0, t1, t2, t3, t4⟩ := tellAnew_h h3 (o := k) (by omega) hk0 hs2
      try dsimp only at t1 t2 t3 t4
      subst t1
      obtain ⟨y1, y2, y3, y4⟩ := anR_facts h3 (o := k) (by omega)
      have hST3 : STQ (rP σ 1) σ σ3 := ST_tr e7 (ST_tr (ST_fr F2 (fun k x r z => Or.inr (Or.inl ⟨by omega, z.2⟩))) (ST_fr t4 (fun k x r z => Or.inr (Or.inl ⟨by omega, z.2⟩))))
      have hP3 : rP σ3 1 = rP σ 1 := hST3.2.2 1
      have hback : ∀ s, H0 s (rP σ 1) (anR ρ k) → ∃ o, H0 s (rP σ 1) (upQ ρ 0 o) := fun s hs => ⟨k, H0_same hs (Same_sy y2) (by rw [y2.1 4 (by omega), up_n (by omega)]; exact h3.1.1) (by omega)⟩
      have hs3 : ∀ s, Ht s (rP σ 1) (anR ρ k) → hsB s (rP σ 1) ρ := fun s hs b hb => ⟨_, (y4 b hb).1, hs b (by omega), (y4 b hb).2⟩
      have eb : boS ρ (k + 1) = if (boS ρ k).1 = 0 ∨ (boS ρ k).2 < nO ρ k then (k + 1, nO ρ k) else boS ρ k := rfl
      have e3' : (if k + 1 = 0 then -nI 1 else nI (acN ρ (k + 1 - 1))) = nI (acN ρ k) := by rw [if_neg (by omega), Nat.add_sub_cancel]
      rw [if_neg (nI_nlt (by omega) (by omega)), hP, gd_pos hlt1, ← hσ2, hP2, gd_pos hlt1, t0, Option.bind_some]
      obtain ⟨⟨v, σ4⟩, n0, n1, n2⟩ := spareNet_h hP3 hlt1 t2 t3 y1
      try dsimp only at n1 n2
      have hST4 : STQ (rP σ 1) σ σ4 := ST_tr hST3 (ST_make n2)
      have hH4 : H0 σ4 (rP σ 1) (anR ρ k) := H0_fr t2 n2 (fun k r y1 y2 _ _ _ => by unfold KPc; omega)
      have hT4 : Ht σ4 (rP σ 1) (anR ρ k) := Ht_fr t3 n2 (fun r => by unfold KPc; omega)
      by_cases hk1 : k = 0
      · rw [if_pos hk1] at e3
        rw [e3, if_pos (hne k), n0, Option.bind_some, if_pos rfl]
        rw [if_pos (Or.inl (by omega))] at eb
        exact ⟨_, rfl, by omega, by rw [eb] <;> rfl, by rw [eb]; exact n1, by rw [e3'], nI_add _ _, hback _ hH4, hs3 _ hT4, hST4⟩
      · rw [if_neg hk1] at e3
        obtain ⟨b3, b4⟩ := b2' hk1
        rw [e3]
        by_cases ha : acN ρ k = acN ρ (k - 1)
        · have hnet : nO ρ k = nO ρ (k - 1) := by
            unfold nO
            exact net_c (anR_EqP h3 (by omega) (by omega) ha.symm) (anR_facts h3 (by omega)).1
          rw [if_neg (fun z => z (by rw [ha]))]
          rw [if_neg (fun z => z.elim (fun y => by omega) (fun y => Int32.not_lt.mpr b4 (hnet ▸ y)))] at eb
          exact ⟨_, rfl, by omega, by rw [eb], by rw [eb], by rw [e3', ha], nI_add _ _, hback _ t2, hs3 _ t3, hST3⟩
        · have hna : ¬ nI (acN ρ k) = nI (acN ρ (k - 1)) := nI_ne (by have := hacn k; omega) (by have := hacn (k - 1); omega) ha
          rw [if_pos hna, n0, Option.bind_some, if_neg (hne (k - 1))]
          by_cases z : (boS ρ k).2 < nO ρ k
          · rw [if_neg (Int32.not_le.mpr (by rw [n1]; exact z))]
            rw [if_pos (Or.inr z)] at eb
            exact ⟨_, rfl, by omega, by rw [eb] <;> rfl, by rw [eb]; exact n1, by rw [e3'], nI_add _ _, hback _ hH4, hs3 _ hT4, hST4⟩
          · rw [if_pos (by rw [n1]; exact Int32.not_lt.mp z)]
            rw [if_neg (fun y => y.elim (fun y => by omega) z)] at eb
            exact ⟨_, rfl, by omega, by rw [eb], by rw [eb], by rw [e3'], nI_add _ _, hback _ hH4, hs3 _ hT4, hST4⟩
  unfold fX5_bestOver
  simp only [l_0, l_1]
  rw [gd_pos hlt1, gd_pos hlt0, c0, Option.bind_some]
  refine Ok_bind hl ?_
  rintro ⟨r1, r2⟩ ⟨x1, x2⟩
  exact ⟨_, rfl, x1, x2⟩
theorem bestOverR_s (C : Cur μ 0 ρ) (h3 : I3 ρ) : OkQ (fX6_bestOver μ) (fun r => r.1 = nI ((boS ρ 51).1 - 1) ∧ rI r.2 60 0 0 = nI 0 ∧ QTQ μ r.2) := by
  have h16 := h3.2.2
  have C0 := cur0 C
  have hl : OkQ (loop stX6_bestOver_11 5000 (-nI 1, nI 0, nI 0, wI μ 60 0 0 (nI 0))) (fun r => r.1 = mI (boS ρ 51).1 ∧ FrQ KT (wI μ 60 0 0 (nI 0)) r.2) := by
    refine loop_ok 51 (fun k q => q.1 = mI (boS ρ k).1 ∧ q.2.1 = (boS ρ k).2 ∧ q.2.2.1 = nI k ∧ FrQ KT (wI μ 60 0 0 (nI 0)) q.2.2.2) (by omega) ⟨mI_0.symm, rfl, rfl, Fr_rfl _⟩ ?_
    rintro k ⟨q1, q2, q3, q4⟩ hk ⟨e1, e2, e3, e4⟩
    try dsimp only at e1 e2 e3 e4
    subst e1 e2 e3
    obtain ⟨b1', b2'⟩ := boS_facts (ρ := ρ) k
    unfold stX6_bestOver_11 jX6_bestOver_51 jX6_bestOver_56
    simp only [l_0, l_1, l_50]
    by_cases hkn : k = 51
    · rw [if_pos (nI_lt (by omega) (by omega))]
      exact ⟨_, rfl, by rw [hkn], e4⟩
    · obtain ⟨x1, x2, x3, x4⟩ := anR_facts h3 (o := k) (by omega)
      obtain ⟨μ1, r0, r1, r2⟩ := begin_s (row0_T e4 (row0_C C0))
      have C2 := set_C r1 (k := 0) (by omega) k
      have F2 := set_F r1 (k := 0) (by omega) (nI k)
      have e37 : upQ ρ 0 k 37 = ρ 37 := up_n (by omega)
      obtain ⟨μ2, s0, s1, s2⟩ := comeAnew_s C2 (by omega) (ovR_facts h3 (by omega)).1
      rw [e37] at s1
      obtain ⟨⟨v, μ3⟩, t0, t1, t2, t3⟩ := netNow_s (ρ := anR ρ k) s1 x1
      try dsimp only at t1 t2 t3
      have FT : FrQ KT (wI μ 60 0 0 (nI 0)) μ3 := Fr_tr e4 (Fr_tr r2 (Fr_tr (Fr_mono (Fr_tr F2 s2) (fun k j r z => KR1_KT z)) (Fr_mono t3 (fun k j r z => KPm_KT z))))
      have eb : boS ρ (k + 1) = if (boS ρ k).1 = 0 ∨ (boS ρ k).2 < nO ρ k then (k + 1, nO ρ k) else boS ρ k := rfl
      rw [if_neg (nI_nlt (by omega) (by omega)), r0, Option.bind_some, set_s r1 (by omega), Option.bind_some, s0, Option.bind_some, t0, Option.bind_some]
      by_cases z : (boS ρ k).1 = 0
      · rw [if_pos ((mI_z (by omega)).mpr z)]
        rw [if_pos (Or.inl z)] at eb
        exact ⟨_, rfl, by omega, by rw [eb, mI_s], by rw [eb]; exact t1, nI_add _ _, FT⟩
      · rw [if_neg (fun y => z ((mI_z (by omega)).mp y))]
        by_cases z2 : (boS ρ k).2 < nO ρ k
        · rw [if_pos (by rw [t1]; exact z2)]
          rw [if_pos (Or.inr z2)] at eb
          exact ⟨_, rfl, by omega, by rw [eb, mI_s], by rw [eb]; exact t1, nI_add _ _, FT⟩
        · rw [if_neg (by rw [t1]; exact z2)]
          rw [if_neg (fun y => y.elim z z2)] at eb
          exact ⟨_, rfl, by omega, by rw [eb], by rw [eb], nI_add _ _, FT⟩
  obtain ⟨⟨v, μ2⟩, d0, d1, d2⟩ := hl
  try dsimp only at d1 d2
  unfold fX6_bestOver
  simp only [l_0, l_1]
  rw [d0, Option.bind_some]
  refine ⟨_, rfl, ?_, ?_, tr_QT C d2⟩
  · show v = _
    have := (boS_facts (ρ := ρ) 51).2 (by omega)
    obtain ⟨x, hx⟩ : ∃ x, (boS ρ 51).1 = x + 1 := ⟨(boS ρ 51).1 - 1, by omega⟩
    rw [d1, hx, mI_s, Nat.add_sub_cancel]
  · show rI μ2 60 0 0 = _
    rw [d2.1 60 0 0 (by unfold KT; omega), rI_wI_self]
theorem A1_bestOver (hIn : InQ σ μ) : ∃ x σ2, fX5_bestOver σ = some (x, σ2) ∧ OkQ (fX6_bestOver μ) (fun q => q.1 = x ∧ rI q.2 60 0 0 = nI 0 ∧ InQ σ2 q.2) := by
  obtain ⟨ρ, h1, C, h3, hN, h5, h6, h7⟩ := id hIn
  obtain ⟨⟨x, σ2⟩, c0, c1, c2⟩ := bestOverC_h h1 h3
  try dsimp only at c1 c2
  refine ⟨x, σ2, c0, Ok_mono (bestOverR_s C h3) ?_⟩
  rintro q ⟨q1, q2, q3⟩
  exact ⟨by rw [q1, c1], q2, In_qt (In_st hIn c2 rfl) q3⟩
end
