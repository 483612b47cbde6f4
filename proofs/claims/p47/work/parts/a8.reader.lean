/-! p47, layer 2: the class reads a known text -/
def Rr (σ : Mem) (ls r : List Nat) : Prop := ∃ s, RdC σ ls.length (Bt ls) s ∧ ls.drop s = r
section
variable {σ σ2 : Mem} {ls r r2 w q : List Nat} {c v lo hi : Nat}
theorem Rr_fr {K KJ : Nat → Nat → Nat → Prop} (R : Rr σ ls r) (F : FrG K KJ σ σ2) (hk : ∀ k j r, K k j r → k < 6 ∨ 11 < k) (hj : ∀ k j r, KJ k j r → k ≠ 0) : Rr σ2 ls r := by
  obtain ⟨s, h1, h2⟩ := R
  exact ⟨s, RdC_fr h1 F hk hj, h2⟩
theorem adv_A (R : Rr σ ls r) (nx : NX ls r r2) : ∃ σ2, fX2_advance σ = some σ2 ∧ Rr σ2 ls r2 ∧ FA σ σ2 := by
  obtain ⟨s, h1, h2⟩ := R
  obtain ⟨σ2, a1, a2, a3⟩ := adv_h h1
  exact ⟨σ2, a1, ⟨_, a2, nx s h1.2.1 h2⟩, a3⟩
theorem num_A (ha : asc ls) (R : Rr σ ls r) (nx : NX ls r (dec v ++ c :: q)) (hc : ¬ (48 ≤ c ∧ c ≤ 57)) (h1 : lo ≤ v) (h2 : v ≤ hi) (hh : hi < 1000) : ∃ σ2, fX2_readNumber (nI lo) (nI hi) σ = some (nI 1, σ2) ∧ Rr σ2 ls (dec v ++ c :: q) ∧ FA σ σ2 ∧ rI σ2 11 0 0 = nI v := by
  obtain ⟨s, R1, R2⟩ := R
  have hd := nx s R1.2.1 R2
  obtain ⟨σ2, a1, a2, a3, a4⟩ := num_h R1 lo hi
  have hs := (nxT_le (B := Bt ls) R1.2.1).2
  obtain ⟨t1, t2, t3⟩ := tk_num ha hd hs (by omega) hc
  have hv := vl_dec ha hd (by omega)
  have e : vlN (Bt ls) (nxT ls.length (Bt ls) s) (dgs ls.length (Bt ls) (nxT ls.length (Bt ls) s)) = nI v := by rw [t3]; exact hv
  have ok : okN ls.length (Bt ls) (nxT ls.length (Bt ls) s) lo hi = true := by
    unfold okN
    rw [e]
    exact decide_eq_true ⟨t1, (nI_leI (by omega) (by omega)).mpr h1, (nI_leI (by omega) (by omega)).mpr h2⟩
  rw [ok] at a1
  have e2 : vlT ls.length (Bt ls) (nxT ls.length (Bt ls) s) = v := by
    unfold vlT
    rw [e, nI_toInt (by omega)]
    rfl
  have h11 := (a4 (by omega) (by omega) ok).1
  rw [e2] at h11
  exact ⟨σ2, a1, ⟨_, a2, hd⟩, a3, h11⟩
theorem end_A (ha : asc ls) (R : Rr σ ls r) (nx : NX ls r (59 :: q)) : ∃ σ2, fX2_readEnd σ = some (nI 1, σ2) ∧ Rr σ2 ls (59 :: q) ∧ FA σ σ2 := by
  obtain ⟨s, R1, R2⟩ := R
  have hd := nx s R1.2.1 R2
  obtain ⟨σ2, a1, a2, a3⟩ := end_h R1
  have hs := (nxT_le (B := Bt ls) R1.2.1).2
  rw [(tk_end ha hd hs).1] at a1
  exact ⟨σ2, a1, ⟨_, a2, hd⟩, a3⟩
theorem wd_A (ha : asc ls) (R : Rr σ ls (w ++ c :: q)) (hw : wdO w) (hc : ¬ (97 ≤ c ∧ c ≤ 122)) : rI σ 10 0 0 = nI 1 ∧ rJ σ 0 0 0 = lN (n8 (w.map (fun l => l - 96))) ∧ ∀ i, i < 11 → fX2_isWord i σ = some (nI (b1 (decide (w.map (fun l => l - 96) = txW i)))) := by
  obtain ⟨s, R1, R2⟩ := R
  obtain ⟨t1, t2, t3, t4⟩ := tk_wd ha R2 R1.2.1 hw hc
  have T := R1.2.2
  refine ⟨?_, ?_, fun i hi => ?_⟩
  · rw [T.2.2.1, t1]
  · rw [T.2.2.2.1 t1, t4]
  · rw [isw_h R1 hi]
    have e : isw ls.length (Bt ls) s (txW i) = decide (w.map (fun l => l - 96) = txW i) := by
      unfold isw
      rw [t4]
      exact decide_eq_decide.mpr ⟨fun z => z.2, fun z => ⟨t1, z⟩⟩
    rw [e]
theorem kd_A (ha : asc ls) (R : Rr σ ls (w ++ c :: q)) (hw : wdO w) (hc : ¬ (97 ≤ c ∧ c ≤ 122)) : fX2_kindTold σ = some (kdI (if w.map (fun l => l - 96) = txW 1 then 0 else if w.map (fun l => l - 96) = txW 2 then 1 else if w.map (fun l => l - 96) = txW 3 then 2 else 3)) := by
  obtain ⟨s, R1, R2⟩ := R
  obtain ⟨t1, t2, t3, t4⟩ := tk_wd ha R2 R1.2.1 hw hc
  rw [kind_h R1]
  have e : ∀ v, (isw ls.length (Bt ls) s v = true) = (w.map (fun l => l - 96) = v) := fun v => by
    unfold isw
    rw [t4, decide_eq_true_eq]
    exact propext ⟨fun z => z.2, fun z => ⟨t1, z⟩⟩
  unfold kdT
  simp only [e]
theorem se_A (ha : asc ls) (R : Rr σ ls (59 :: q)) : rI σ 10 0 0 = nI 3 := by
  obtain ⟨s, R1, R2⟩ := R
  rw [R1.2.2.2.2.1, (tk_end ha R2 R1.2.1).1]
theorem ni_A (R : Rr σ ls []) : rI σ 10 0 0 = nI 0 := by
  obtain ⟨s, R1, R2⟩ := R
  rw [R1.2.2.2.2.1, tk_nil R2 R1.2.1]
end
