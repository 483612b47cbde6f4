/-! p47, layer 2: what a group is given staysQ; one room or more -/
def SmB (ρ : RwQ) (b : Nat) (π π2 : PnQ) : Prop := π2.2.1 b = π.2.1 b ∧ rbO ρ π2 b = rbO ρ π b ∧ pdB ρ π2 b = pdB ρ π b ∧ wkB ρ π2 b = wkB ρ π b ∧ ∀ p, p < 12 → π2.2.2 (12 * b + p) = π.2.2 (12 * b + p)
section
variable {ρ : RwQ} {π : PnQ} {b : Nat}
theorem SmB_rfl : SmB ρ b π π := ⟨rfl, rfl, rfl, rfl, fun _ _ => rfl⟩
theorem SmB_tr {a c d : PnQ} (h1 : SmB ρ b a c) (h2 : SmB ρ b c d) : SmB ρ b a d := ⟨h2.1.trans h1.1, h2.2.1.trans h1.2.1, h2.2.2.1.trans h1.2.2.1, h2.2.2.2.1.trans h1.2.2.2.1, fun p hp => (h2.2.2.2.2 p hp).trans (h1.2.2.2.2 p hp)⟩
theorem SmB_1 (hW : WF ρ) {k : Nat} (hk : k < ρ 37) (hb : b < ρ 37) (hne : b ≠ k) : SmB ρ b π (plc1 ρ k π) := by
  obtain ⟨e1, e2, e3⟩ := plc1_ne (π := π) hW hk hne hb
  exact ⟨plc1_bec hne, e1, e2, e3, fun p hp => plc1_sl hW hk (fun q hq => by omega)⟩
theorem SmB_B (hW : WF ρ) (hb : b < ρ 37) {n : Nat} : ∀ k j, j ≤ k → k ≤ ρ 37 → (∀ i, j ≤ i → i < k → i = b → isPl ρ i n = false) → SmB ρ b (plB ρ n π j) (plB ρ n π k) := by
  intro k
  induction k with
  | zero => intro j hj _ _; rw [show j = 0 by omega]; exact SmB_rfl
  | succ k ih =>
    intro j hj hk h
    by_cases e : j = k + 1
    · rw [e]; exact SmB_rfl
    · refine SmB_tr (ih j (by omega) (by omega) (fun i h1 h2 h3 => h i h1 (by omega) h3)) ?_
      show SmB ρ b (plB ρ n π k) (if isPl ρ k n = true then plc1 ρ k (plB ρ n π k) else plB ρ n π k)
      by_cases q : isPl ρ k n = true
      · rw [if_pos q]
        have hne : b ≠ k := fun z => by
          have := h k (by omega) (by omega) z.symm
          rw [q] at this
          cases this
        exact SmB_1 hW (by omega) hb hne
      · rw [if_neg q]; exact SmB_rfl
theorem isPl_n {k n m : Nat} (h : isPl ρ k n = true) (hm : m ≠ n) : isPl ρ k m = false := by
  refine Bool.eq_false_iff.mpr (fun z => ?_)
  have a := of_decide_eq_true h
  have c := of_decide_eq_true z
  omega
theorem SmB_N (hW : WF ρ) (hb : b < ρ 37) {n : Nat} (hp : isPl ρ b n = true) : ∀ m, n + 1 ≤ m → SmB ρ b (plN ρ (n + 1)) (plN ρ m) := by
  intro m
  induction m with
  | zero => intro h; omega
  | succ m ih =>
    intro h
    by_cases e : n + 1 = m + 1
    · rw [e]; exact SmB_rfl
    · refine SmB_tr (ih (by omega)) ?_
      exact SmB_B (π := plN ρ m) hW hb (ρ 37) 0 (Nat.zero_le _) (Nat.le_refl _) (fun i _ _ z => by rw [z]; exact isPl_n hp (by omega))
theorem SmB_plc (hW : WF ρ) (hb : b < ρ 37) {n : Nat} (hn : n < 30) (hp : isPl ρ b n = true) : SmB ρ b (plc1 ρ b (plB ρ n (plN ρ n) b)) (plc ρ) := by
  refine SmB_tr ?_ (SmB_N hW hb hp 30 (by omega))
  have h1 : SmB ρ b (plB ρ n (plN ρ n) (b + 1)) (plB ρ n (plN ρ n) (ρ 37)) := SmB_B hW hb (ρ 37) (b + 1) (by omega) (Nat.le_refl _) (fun i h1 _ h3 => by omega)
  have e : plB ρ n (plN ρ n) (b + 1) = plc1 ρ b (plB ρ n (plN ρ n) b) := if_pos hp
  rw [e] at h1
  exact h1
theorem orS_pos {h : RwQ} {r : Nat} (hf : fitR ρ h b r = true) : ∀ k, r < k → orS ρ h b k ≠ 0 := by
  intro k
  induction k with
  | zero => intro z; omega
  | succ k ih =>
    intro hk
    show (if fitR ρ h b k = true ∧ btr ρ h b (orS ρ h b k) k = true then k + 1 else orS ρ h b k) ≠ 0
    by_cases q : fitR ρ h b k = true ∧ btr ρ h b (orS ρ h b k) k = true
    · rw [if_pos q]; omega
    · rw [if_neg q]
      by_cases e : r = k
      · subst e
        intro z
        exact q ⟨hf, decide_eq_true (Or.inl z)⟩
      · exact ih (by omega)
theorem pc_pow : ∀ r, r < 8 → pc (2 ^ r) = 1 := by decide +kernel
theorem pc_one : ∀ S, S < 16 → pc S = 1 → S = 1 ∨ S = 2 ∨ S = 4 ∨ S = 8 := by decide +kernel
theorem sumK_1 {F : Nat → Nat} {r kd : Nat} (hr : r < ρ 4) : sumK ρ F (2 ^ r) kd = if rmv ρ r 0 = kd then F r else 0 := by
  have h0 : sumK ρ F 0 kd = 0 := by
    unfold sumK
    refine sumN_zero (fun k hk => ?_)
    unfold sumKT
    rw [if_neg (fun z => by have := z.1; rw [Nat.zero_div] at this; omega)]
  have hb : 2 ^ r / 2 ^ r % 2 = 1 := by rw [Nat.div_self (pow_pos r)]
  have := rmB_sumK (ρ := ρ) (F := F) (S := 2 ^ r) (r := r) (kd := kd) hb hr
  have e : rmB (2 ^ r) r = 0 := by unfold rmB; exact Nat.xor_self _
  rw [e, h0, Nat.zero_add] at this
  exact this.symm
/-- a set of one room that is enoughQ is a room that has place -/
theorem one_fit {h : RwQ} {r : Nat} (hr : r < ρ 4) (hk : rmv ρ r 0 ≤ 2) (hs : subM ρ b (2 ^ r) = true) (hE : enoughQ ρ (freeC ρ h b) b (2 ^ r) = true) : fitR ρ h b r = true := by
  have hb : 2 ^ r / 2 ^ r % 2 = 1 := by rw [Nat.div_self (pow_pos r)]
  have hc := subM_iff.mp hs r hr hb
  have hE2 := of_decide_eq_true hE
  rw [sumK_1 hr, sumK_1 hr, sumK_1 hr] at hE2
  unfold fitR tkA
  rw [hc, Bool.true_and]
  have hp : prs ρ b = bkv ρ b 2 + bkv ρ b 3 := rfl
  have e : rmv ρ r 0 = 0 ∨ rmv ρ r 0 = 1 ∨ rmv ρ r 0 = 2 := by omega
  rcases e with e | e | e
  · rw [e, if_neg (by omega), if_neg (by omega), if_pos rfl] at hE2
    rw [decide_eq_true (Or.inl e), decide_eq_true (by omega)] <;> rfl
  · rw [e, if_pos rfl, if_neg (by omega), if_neg (by omega)] at hE2
    rw [decide_eq_true (Or.inr (Or.inl ⟨e, by omega⟩)), decide_eq_true (by omega)] <;> rfl
  · rw [e, if_neg (by omega), if_pos rfl, if_neg (by omega)] at hE2
    rw [decide_eq_true (Or.inr (Or.inr ⟨e, by omega⟩)), decide_eq_true (by omega)] <;> rfl
theorem bec_pc {h : RwQ} (hW : WF ρ) (h4 : ρ 4 ≤ 4) (hne : setOfQ ρ h b ≠ 0) : becOf ρ h b = if pc (setOfQ ρ h b) = 1 then 1 else 2 := by
  unfold becOf
  by_cases h0 : orR ρ h b = 0
  · rw [if_pos h0, if_neg hne]
    have es : setOfQ ρ h b = (if bkv ρ b 6 = 1 then 0 else stRQ ρ h b) := if_pos h0
    have e6 : ¬ bkv ρ b 6 = 1 := fun z => hne (by rw [es, if_pos z])
    rw [if_neg e6] at es
    rw [es] at hne ⊢
    obtain ⟨s1, s2⟩ := (stS_min (ρ := ρ) (h := h) (b := b) (2 ^ (ρ 4) - 1)).1 hne
    by_cases q : pc (stRQ ρ h b) = 1
    · exfalso
      have hlt := stR_lt (ρ := ρ) (h := h) (b := b) (by omega)
      have hp : 2 ^ (ρ 4) ≤ 16 := Nat.le_trans (Nat.pow_le_pow_right (by omega) h4) (by decide)
      have key : ∀ r, stRQ ρ h b = 2 ^ r → r < 4 → False := fun r e hr => by
        have hr4 : r < ρ 4 := by
          rw [e] at hlt
          exact (Nat.pow_lt_pow_iff_right (by omega)).mp hlt
        have s1' : subM ρ b (2 ^ r) = true := by rw [← e]; exact s1
        have s2' : enoughQ ρ (freeC ρ h b) b (2 ^ r) = true := by rw [← e]; exact s2
        exact orS_pos (one_fit hr4 (hW.2.2.2.1 r hr4).1 s1' s2') (ρ 4) hr4 h0
      rcases pc_one _ (by omega) q with e | e | e | e
      · exact key 0 e (by omega)
      · exact key 1 e (by omega)
      · exact key 2 e (by omega)
      · exact key 3 e (by omega)
    · rw [if_neg q]
  · rw [if_neg h0]
    have es : setOfQ ρ h b = 2 ^ (orR ρ h b - 1) := if_neg h0
    have hle := orS_le (ρ := ρ) (h := h) (b := b) (ρ 4)
    have hle2 : orR ρ h b ≤ ρ 4 := hle
    rw [es, if_pos (pc_pow _ (by omega))]
end
