/-! layer 2: a hostel copied, cleared; all told anew -/
theorem H0_I {σ σ2 : Mem} {j : Nat} {ρ : RwQ} (h : H0 (σ2.1, σ.2) j ρ) : H0 σ2 j ρ := h
/-- an empty row -/
def ρe : RwQ := fun k => if k = 1 then 60 else if k = 2 then 7 else if k = 3 then 10 else 0
theorem ρe_WF : WF ρe ∧ WQ ρe := by
  refine ⟨⟨by decide, by decide, by decide, fun r hr => absurd hr (by simp [ρe]), fun b hb => absurd hb (by simp [ρe])⟩, by decide, by decide, fun k hk => absurd hk (by simp [ρe]), fun i k _ hk => absurd hk (by simp [ρe])⟩
theorem forget_h (σ : Mem) (j : Nat) : OkQ (fX1_forgetStates j σ) (fun σ2 => rI σ2 23 j 0 = nI 0 ∧ (∀ n, n < 30 → rI σ2 29 j n = nI 0) ∧ FrQ (fun k x _ => (k = 23 ∨ k = 29) ∧ x = j) σ σ2) := by
  have hl : OkQ (loop (stX1_forgetStates_7 j) 5000 ((0 : Int32), wI σ 23 j 0 (0 : Int32))) (fun σ2 => rI σ2 23 j 0 = nI 0 ∧ (∀ n, n < 30 → rI σ2 29 j n = nI 0) ∧ FrQ (fun k x _ => (k = 23 ∨ k = 29) ∧ x = j) σ σ2) := by
    refine loop_ok 30 (fun k a => a.1 = nI k ∧ rI a.2 23 j 0 = nI 0 ∧ (∀ n, n < k → rI a.2 29 j n = nI 0) ∧ FrQ (fun k x _ => (k = 23 ∨ k = 29) ∧ x = j) σ a.2) (by omega) ⟨rfl, rI_wI_self, fun n hn => absurd hn (Nat.not_lt_zero _), Fr_wI (by omega)⟩ ?_
    rintro k ⟨x1, x2⟩ hk ⟨e1, e2, e3, F⟩
    try dsimp only at e1 e2 e3 F
    subst e1
    unfold stX1_forgetStates_7
    simp only [l_0, l_1, l_30]
    by_cases hkn : k = 30
    · subst hkn
      rw [if_pos (nI_le (Nat.le_refl _) (by omega))]
      exact ⟨_, rfl, e2, e3, F⟩
    · rw [if_neg (nI_ge (by omega) (by omega)), gd_inb (by omega) (by omega), nI_clamp (by omega), nI_add]
      refine ⟨_, rfl, by omega, rfl, ?_, ?_, Fr_tr F (Fr_wI (by omega))⟩
      · rw [rI_wI, if_neg (by omega)]; exact e2
      · intro n hn
        rw [rI_wI]
        by_cases h : n = k
        · subst h; rw [if_pos ⟨rfl, rfl, rfl⟩]
        · rw [if_neg (fun q => h q.2.2)]; exact e3 n (by omega)
  unfold fX1_forgetStates
  refine Ok_bind hl ?_
  intro σ2 h
  exact ⟨_, rfl, h⟩
theorem clear_h (σ : Mem) (j : Nat) : OkQ (fX1_clear j σ) (fun σ2 => HR σ2 j ρe ∧ FrQ (KHQ j) σ σ2) := by
  unfold fX1_clear
  simp only [l_0, l_60, l_7, l_10]
  refine Ok_bind (forget_h _ j) ?_
  rintro s ⟨g1, g2, G⟩
  have F1 : FrQ (KHQ j) σ s := Fr_tr (Fr_tr (Fr_wI ⟨by omega, rfl⟩) (Fr_tr (Fr_wI ⟨by omega, rfl⟩) (Fr_wI ⟨by omega, rfl⟩))) (Fr_mono G (fun k x r q => by unfold KHQ; omega))
  refine ⟨_, rfl, ⟨⟨?_, ?_, ?_, ?_, ?_, ?_, ?_, fun r hr => absurd hr (by simp [ρe]), fun b hb => absurd hb (by simp [ρe])⟩, fun b hb => absurd hb (by simp [ρe]), ⟨?_, fun k hk => absurd hk (by simp [ρe])⟩, ?_⟩, Fr_tr F1 (Fr_tr (Fr_wI ⟨by omega, rfl⟩) (Fr_tr (Fr_wI ⟨by omega, rfl⟩) (Fr_tr (Fr_wI ⟨by omega, rfl⟩) (Fr_wI ⟨by omega, rfl⟩))))⟩
  · rw [show ρe 4 = 0 from rfl, rI_wI, if_neg (by omega), rI_wI, if_neg (by omega), rI_wI, if_neg (by omega), rI_wI, if_neg (by omega), G.1 20 j 0 (by omega), rI_wI, if_neg (by omega), rI_wI, if_neg (by omega), rI_wI, if_pos ⟨rfl, rfl, rfl⟩]
  · rw [show allB ρe = 0 from rfl, rI_wI, if_neg (by omega), rI_wI, if_neg (by omega), rI_wI, if_neg (by omega), rI_wI, if_neg (by omega), G.1 21 j 0 (by omega), rI_wI, if_neg (by omega), rI_wI, if_pos ⟨rfl, rfl, rfl⟩]
  · rw [show ρe 37 = 0 from rfl, rI_wI, if_neg (by omega), rI_wI, if_neg (by omega), rI_wI, if_neg (by omega), rI_wI, if_neg (by omega), G.1 22 j 0 (by omega), rI_wI, if_pos ⟨rfl, rfl, rfl⟩]
  · rw [show ρe 0 = 0 from rfl, rI_wI, if_neg (by omega), rI_wI, if_neg (by omega), rI_wI, if_neg (by omega), rI_wI, if_pos ⟨rfl, rfl, rfl⟩]
  · rw [show ρe 1 = 60 from rfl, rI_wI, if_neg (by omega), rI_wI, if_neg (by omega), rI_wI, if_pos ⟨rfl, rfl, rfl⟩]
  · rw [show ρe 2 = 7 from rfl, rI_wI, if_neg (by omega), rI_wI, if_pos ⟨rfl, rfl, rfl⟩]
  · rw [show ρe 3 = 10 from rfl, rI_wI, if_pos ⟨rfl, rfl, rfl⟩]
  · rw [show ρe 191 = 0 from rfl, rI_wI, if_neg (by omega), rI_wI, if_neg (by omega), rI_wI, if_neg (by omega), rI_wI, if_neg (by omega)]; exact g1
  · intro n hn
    rw [show bkd ρe n = 0 from rfl, rI_wI, if_neg (by omega), rI_wI, if_neg (by omega), rI_wI, if_neg (by omega), rI_wI, if_neg (by omega)]; exact g2 n hn
