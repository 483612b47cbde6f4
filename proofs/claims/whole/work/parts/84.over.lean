/-! layer 2: the best overbooking -/
def fgS (ρ : RwQ) : Nat → RwQ
  | 0 => ρ
  | k + 1 => if bkv (fgS ρ k) k 8 = 2 then fgS ρ k else setBQ (fgS ρ k) k 8 0
def caS (ρ : RwQ) : Nat → RwQ
  | 0 => ρ
  | k + 1 => if bkv (caS ρ k) k 8 = 2 then caS ρ k else cms (caS ρ k) k
def ovR (ρ : RwQ) (o : Nat) : RwQ := upQ (upQ ρ 0 o) 191 0
def frR (ρ : RwQ) (o : Nat) : RwQ := fgS (ovR ρ o) (ρ 37)
def anR (ρ : RwQ) (o : Nat) : RwQ := caS (frR ρ o) (ρ 37)
def acN (ρ : RwQ) (o : Nat) : Nat := bitsQ (fun b => decide (bkv (anR ρ o) b 8 = 1)) (ρ 37)
section
variable {σ μ : Mem} {ρ : RwQ} {s : Nat}
theorem fgS_facts (h17 : ρ 37 ≤ 17) : ∀ k, k ≤ ρ 37 → SameQ ρ (fgS ρ k) ∧ (∀ i, 191 ≤ i → fgS ρ k i = ρ i) ∧ (∀ b, b < 17 → bkv (fgS ρ k) b 8 = if b < k ∧ bkv ρ b 8 ≠ 2 then 0 else bkv ρ b 8) := by
  intro k
  induction k with
  | zero => intro _; exact ⟨Same_rfl ρ, fun _ _ => rfl, fun b _ => by rw [if_neg (by omega)] <;> rfl⟩
  | succ k ih =>
    intro hk
    obtain ⟨i1, i2, i3⟩ := ih (by omega)
    have e3 := i3 k (by omega)
    rw [if_neg (by omega)] at e3
    have e : fgS ρ (k + 1) = if bkv ρ k 8 = 2 then fgS ρ k else setBQ (fgS ρ k) k 8 0 := by rw [← e3] <;> rfl
    rw [e]
    by_cases q : bkv ρ k 8 = 2
    · rw [if_pos q]
      refine ⟨i1, i2, fun b hb => ?_⟩
      rw [i3 b hb]
      by_cases z : b = k
      · rw [if_neg (by omega), if_neg (fun y => y.2 (by rw [z]; exact q))]
      · by_cases z2 : b < k ∧ bkv ρ b 8 ≠ 2
        · rw [if_pos z2, if_pos ⟨by omega, z2.2⟩]
        · rw [if_neg z2, if_neg (fun y => z2 ⟨by omega, y.2⟩)]
    · rw [if_neg q]
      refine ⟨Same_tr i1 (Same_st (by omega)), fun i hi => by rw [setB_hi (by omega) (by omega) hi]; exact i2 i hi, fun b hb => ?_⟩
      rw [bkv_setB (by omega) (by omega), i3 b hb]
      by_cases z : b = k
      · rw [if_pos ⟨z, rfl⟩, if_pos ⟨by omega, by rw [z]; exact q⟩]
      · rw [if_neg (fun y => z y.1)]
        by_cases z2 : b < k ∧ bkv ρ b 8 ≠ 2
        · rw [if_pos z2, if_pos ⟨by omega, z2.2⟩]
        · rw [if_neg z2, if_neg (fun y => z2 ⟨by omega, y.2⟩)]
theorem cms_191 {b : Nat} (hb : b < 17) : cms ρ b 191 ≤ ρ 191 + 1 := by
  unfold cms
  split
  · rw [setB_hi hb (by omega) (by omega)]; omega
  · unfold wtsQ
    rw [up_s]; omega
theorem caS_facts (hW : WF ρ) (h16 : ρ 37 ≤ 16) (h0 : ρ 191 = 0) (hst : ∀ b, b < ρ 37 → bkv ρ b 8 = 0 ∨ bkv ρ b 8 = 2) : ∀ k, k ≤ ρ 37 → SameQ ρ (caS ρ k) ∧ WF (caS ρ k) ∧ caS ρ k 191 ≤ k ∧ (∀ b, b < 17 → k ≤ b → bkv (caS ρ k) b 8 = bkv ρ b 8) ∧ (∀ b, b < ρ 37 → bkv (caS ρ k) b 8 ≤ 2 ∧ (bkv (caS ρ k) b 8 = 2 ↔ bkv ρ b 8 = 2)) := by
  intro k
  induction k with
  | zero => intro _; exact ⟨Same_rfl ρ, hW, by show ρ 191 ≤ 0; omega, fun _ _ _ => rfl, fun b hb => ⟨(hW.2.2.2.2 b hb).2.2.2.2.2.2.2, Iff.rfl⟩⟩
  | succ k ih =>
    intro hk
    obtain ⟨i1, i2, i3, i4, i5⟩ := ih (by omega)
    have e4 := i4 k (by omega) (Nat.le_refl _)
    have e : caS ρ (k + 1) = if bkv ρ k 8 = 2 then caS ρ k else cms (caS ρ k) k := by rw [← e4] <;> rfl
    rw [e]
    by_cases q : bkv ρ k 8 = 2
    · rw [if_pos q]
      exact ⟨i1, i2, by omega, fun b hb hbk => i4 b hb (by omega), i5⟩
    · rw [if_neg q]
      refine ⟨Same_tr i1 (cms_same (by omega)), cms_WF i2 (by omega), ?_, fun b hb hbk => ?_, fun b hb => ?_⟩
      · have := cms_191 (ρ := caS ρ k) (b := k) (by omega); omega
      · rw [cms_st (by omega) hb (by omega), if_neg (by omega)]; exact i4 b hb (by omega)
      · rw [cms_st (by omega) (by omega) (by omega)]
        by_cases z : b = k ∧ canA (caS ρ k) k = true
        · rw [if_pos z, z.1]
          exact ⟨by omega, by omega, fun y => absurd y q⟩
        · rw [if_neg z]; exact i5 b hb
theorem caS_late (hW : WF ρ) (h16 : ρ 37 ≤ 16) (h0 : ρ 191 = 0) (hst : ∀ b, b < ρ 37 → bkv ρ b 8 = 0 ∨ bkv ρ b 8 = 2) {k b : Nat} (hb : b < k) : ∀ d, k + d ≤ ρ 37 → bkv (caS ρ (k + d)) b 8 = bkv (caS ρ k) b 8 := by
  intro d
  induction d with
  | zero => intro _; rfl
  | succ d ih =>
    intro hd
    have hf := caS_facts hW h16 h0 hst (k + d) (by omega)
    show bkv (if bkv (caS ρ (k + d)) (k + d) 8 = 2 then caS ρ (k + d) else cms (caS ρ (k + d)) (k + d)) b 8 = _
    rw [← ih (by omega)]
    split
    · rfl
    · rw [cms_st (by omega) (by omega) (by have := hf.2.2.1; omega), if_neg (by omega)]
theorem ovR_facts (h3 : I3 ρ) {o : Nat} (ho : o ≤ 50) : WF (ovR ρ o) ∧ ovR ρ o 37 = ρ 37 ∧ ovR ρ o 191 = 0 ∧ SameQ (upQ ρ 0 o) (ovR ρ o) ∧ (∀ b w, bkv (upQ ρ 0 o) b w = bkv ρ b w) ∧ (∀ b, b < 17 → bkv (ovR ρ o) b 8 = bkv ρ b 8) := by
  obtain ⟨w1, w2, w3, w4, w5⟩ := h3.1
  have e : ∀ i, i ≠ 0 → upQ ρ 0 o i = ρ i := fun i hi => up_n hi
  have hWu : WF (upQ ρ 0 o) := by
    refine ⟨by rw [e 4 (by omega)]; exact w1, by rw [e 37 (by omega)]; exact w2, by rw [e 1 (by omega), e 2 (by omega), e 3 (by omega), up_s]; exact ⟨ho, w3.2⟩, fun r hr => ?_, fun b hb => ?_⟩
    · rw [e 4 (by omega)] at hr
      have := w4 r hr
      unfold WFr at this ⊢
      rw [rmv_up (by omega), rmv_up (by omega), rmv_up (by omega), rmv_up (by omega)]; exact this
    · rw [e 37 (by omega)] at hb
      have := w5 b hb
      unfold WFb prs at this ⊢
      rw [bkv_up (by omega), bkv_up (by omega), bkv_up (by omega), bkv_up (by omega), bkv_up (by omega), bkv_up (by omega), bkv_up (by omega), bkv_up (by omega), bkv_up (by omega)]; exact this
  refine ⟨WF_hi hWu (by omega), ?_, up_s _ _ _, Same_hi (by omega), fun b w => bkv_up (by omega), fun b hb => ?_⟩
  · unfold ovR; rw [up_n (by omega), up_n (by omega)]
  · unfold ovR; rw [bkv_up (by omega), bkv_up (by omega)]
theorem frR_facts (h3 : I3 ρ) {o : Nat} (ho : o ≤ 50) : WF (frR ρ o) ∧ frR ρ o 37 = ρ 37 ∧ frR ρ o 191 = 0 ∧ SameQ (upQ ρ 0 o) (frR ρ o) ∧ (∀ b, b < ρ 37 → bkv (frR ρ o) b 8 = 0 ∨ bkv (frR ρ o) b 8 = 2) ∧ (∀ b, b < ρ 37 → (bkv (frR ρ o) b 8 = 2 ↔ bkv ρ b 8 = 2)) := by
  obtain ⟨x1, x2, x3, x4, x5, x6⟩ := ovR_facts h3 ho
  have h16 := h3.2.2
  obtain ⟨y1, y2, y3⟩ := fgS_facts (ρ := ovR ρ o) (by omega) (ρ 37) (by omega)
  have e37 : frR ρ o 37 = ρ 37 := by unfold frR; rw [y1.1 37 (by omega), x2]
  have st : ∀ b, b < ρ 37 → bkv (frR ρ o) b 8 = if bkv ρ b 8 = 2 then 2 else 0 := fun b hb => by
    show bkv (fgS (ovR ρ o) (ρ 37)) b 8 = _
    rw [y3 b (by omega), x6 b (by omega)]
    by_cases q : bkv ρ b 8 = 2
    · rw [if_neg (fun z => z.2 q), if_pos q, q]
    · rw [if_pos ⟨hb, q⟩, if_neg q]
  refine ⟨WF_same y1 x1 (fun b hb => ?_), e37, by show fgS _ _ 191 = 0; rw [y2 191 (by omega)]; exact x3, Same_tr x4 y1, fun b hb => ?_, fun b hb => ?_⟩
  · rw [x2] at hb
    rw [st b hb]; split <;> omega
  · rw [st b hb]; split
    · exact Or.inr rfl
    · exact Or.inl rfl
  · rw [st b hb]; split
    · rename_i q; exact ⟨fun _ => q, fun _ => rfl⟩
    · rename_i q; exact ⟨fun z => absurd z (by omega), fun z => absurd z q⟩
theorem anR_facts (h3 : I3 ρ) {o : Nat} (ho : o ≤ 50) : WF (anR ρ o) ∧ SameQ (upQ ρ 0 o) (anR ρ o) ∧ anR ρ o 37 = ρ 37 ∧ (∀ b, b < ρ 37 → bkv (anR ρ o) b 8 ≤ 2 ∧ (bkv (anR ρ o) b 8 = 2 ↔ bkv ρ b 8 = 2)) := by
  obtain ⟨x1, x2, x3, x4, x5, x6⟩ := frR_facts h3 ho
  have h16 := h3.2.2
  obtain ⟨y1, y2, y3, y4, y5⟩ := caS_facts x1 (by omega) x3 (fun b hb => x5 b (by omega)) (ρ 37) (by omega)
  refine ⟨y2, Same_tr x4 y1, by rw [show anR ρ o 37 = caS (frR ρ o) (ρ 37) 37 from rfl, y1.1 37 (by omega), x2], fun b hb => ?_⟩
  obtain ⟨z1, z2⟩ := y5 b (by omega)
  exact ⟨z1, z2.trans (x6 b hb)⟩
theorem anR_EqP (h3 : I3 ρ) {o o2 : Nat} (ho : o ≤ 50) (ho2 : o2 ≤ 50) (h : acN ρ o = acN ρ o2) : EqP (anR ρ o) (anR ρ o2) := by
  obtain ⟨x1, x2, x3, x4⟩ := anR_facts h3 ho
  obtain ⟨y1, y2, y3, y4⟩ := anR_facts h3 ho2
  have h16 := h3.2.2
  refine ⟨fun k hk hk2 => ?_, fun b w hb hw _ => ?_, fun b hb => ?_⟩
  · rw [x2.1 k (by omega), y2.1 k (by omega), up_n (by omega), up_n (by omega)]
  · rw [x3] at hb
    rw [x2.2 b w (by omega) hw, y2.2 b w (by omega) hw, bkv_up (by omega), bkv_up (by omega)]
  · rw [x3] at hb
    have e1 := bits_bit (fun b => decide (bkv (anR ρ o) b 8 = 1)) (ρ 37) b hb
    have e2 := bits_bit (fun b => decide (bkv (anR ρ o2) b 8 = 1)) (ρ 37) b hb
    have e3 : b1 (decide (bkv (anR ρ o) b 8 = 1)) = b1 (decide (bkv (anR ρ o2) b 8 = 1)) := by
      rw [← e1, ← e2]
      show acN ρ o / _ % _ = acN ρ o2 / _ % _
      rw [h]
    by_cases q : bkv (anR ρ o) b 8 = 1
    · by_cases q2 : bkv (anR ρ o2) b 8 = 1
      · exact ⟨fun _ => q, fun _ => q2⟩
      · rw [decide_eq_true q, decide_eq_false q2] at e3; exact absurd e3 (by decide)
    · by_cases q2 : bkv (anR ρ o2) b 8 = 1
      · rw [decide_eq_false q, decide_eq_true q2] at e3; exact absurd e3 (by decide)
      · exact ⟨fun z => absurd z q2, fun z => absurd z q⟩
/-- the reference -/
theorem comeAnew_s (C : Cur μ s ρ) (h16 : ρ 37 ≤ 16) (hW : WF (upQ ρ 191 0)) : OkQ (fX6_comeAnew μ) (fun μ2 => Cur μ2 s (caS (fgS (upQ ρ 191 0) (ρ 37)) (ρ 37)) ∧ FrQ (KRQ s) μ μ2) := by
  have e37 : upQ ρ 191 0 37 = ρ 37 := up_n (by omega)
  have C1 := set_C C (k := 191) (by omega) 0
  have F1 := set_F C (k := 191) (by omega) (nI 0)
  have hl1 : OkQ (loop stX6_comeAnew_10 5000 (nI 0, wI μ 61 0 (208 * s + 191) (nI 0))) (fun μ2 => Cur μ2 s (fgS (upQ ρ 191 0) (ρ 37)) ∧ FrQ (KRQ s) μ μ2) := by
    refine loop_ok (ρ 37) (fun k q => q.1 = nI k ∧ Cur q.2 s (fgS (upQ ρ 191 0) k) ∧ FrQ (KRQ s) μ q.2) (by omega) ⟨rfl, C1, F1⟩ ?_
    rintro k ⟨q1, q2⟩ hk ⟨e1, e2, e3⟩
    try dsimp only at e1 e2 e3
    subst e1
    obtain ⟨i1, i2, i3⟩ := fgS_facts (ρ := upQ ρ 191 0) (by omega) k (by omega)
    unfold stX6_comeAnew_10 jX6_comeAnew_39
    simp only [l_0, l_1, l_2, l_8, l_37]
    rw [get_s e2 (by omega), Option.bind_some, i1.1 37 (by omega), e37]
    by_cases hkn : k = ρ 37
    · rw [if_pos (nI_le (by omega) (by omega))]
      exact ⟨_, rfl, by rw [← hkn]; exact e2, e3⟩
    · rw [if_neg (nI_ge (by omega) (by omega)), of_s e2 (by omega) (by omega), Option.bind_some]
      have h8 : bkv (fgS (upQ ρ 191 0) k) k 8 ≤ 2 := by
        rw [i3 k (by omega), if_neg (by omega)]
        exact (hW.2.2.2.2 k (by omega)).2.2.2.2.2.2.2
      simp (disch := omega) only [nI_eq]
      have e : fgS (upQ ρ 191 0) (k + 1) = if bkv (fgS (upQ ρ 191 0) k) k 8 = 2 then fgS (upQ ρ 191 0) k else setBQ (fgS (upQ ρ 191 0) k) k 8 0 := rfl
      by_cases z : bkv (fgS (upQ ρ 191 0) k) k 8 = 2
      · rw [if_pos z]
        rw [if_pos z] at e
        exact ⟨_, rfl, by omega, nI_add _ _, by rw [e]; exact e2, e3⟩
      · rw [if_neg z, lay_s e2 (by omega) (by omega), Option.bind_some]
        rw [if_neg z] at e
        exact ⟨_, rfl, by omega, nI_add _ _, by rw [e]; exact lay_C e2 (by omega) (by omega) 0, Fr_tr e3 (lay_F e2 (by omega) (by omega) _)⟩
  obtain ⟨i1, i2, i3⟩ := fgS_facts (ρ := upQ ρ 191 0) (by omega) (ρ 37) (by omega)
  have e37' : fgS (upQ ρ 191 0) (ρ 37) 37 = ρ 37 := by rw [i1.1 37 (by omega), e37]
  have hWf : WF (fgS (upQ ρ 191 0) (ρ 37)) := WF_same i1 hW (fun b hb => by
    rw [i3 b (by omega)]
    have := (hW.2.2.2.2 b hb).2.2.2.2.2.2.2
    split <;> omega)
  have hst : ∀ b, b < ρ 37 → bkv (fgS (upQ ρ 191 0) (ρ 37)) b 8 = 0 ∨ bkv (fgS (upQ ρ 191 0) (ρ 37)) b 8 = 2 := fun b hb => by
    rw [i3 b (by omega)]
    by_cases z : bkv (upQ ρ 191 0) b 8 = 2
    · rw [if_neg (fun y => y.2 z)]; exact Or.inr z
    · rw [if_pos ⟨hb, z⟩]; exact Or.inl rfl
  have hf := caS_facts hWf (by omega) (by rw [i2 191 (by omega), up_s]) (fun b hb => hst b (by omega))
  obtain ⟨μ1, a0, a1, a2⟩ := hl1
  have hl2 : OkQ (loop stX6_comeAnew_47 5000 (nI 0, μ1)) (fun μ2 => Cur μ2 s (caS (fgS (upQ ρ 191 0) (ρ 37)) (ρ 37)) ∧ FrQ (KRQ s) μ μ2) := by
    refine loop_ok (ρ 37) (fun k q => q.1 = nI k ∧ Cur q.2 s (caS (fgS (upQ ρ 191 0) (ρ 37)) k) ∧ FrQ (KRQ s) μ q.2) (by omega) ⟨rfl, a1, a2⟩ ?_
    rintro k ⟨q1, q2⟩ hk ⟨e1, e2, e3⟩
    try dsimp only at e1 e2 e3
    subst e1
    obtain ⟨j1, j2, j3, j4, j5⟩ := hf k (by omega)
    unfold stX6_comeAnew_47 jX6_comeAnew_73
    simp only [l_0, l_1, l_2, l_8, l_37]
    rw [get_s e2 (by omega), Option.bind_some, j1.1 37 (by omega), e37']
    by_cases hkn : k = ρ 37
    · rw [if_pos (nI_le (by omega) (by omega))]
      exact ⟨_, rfl, by rw [← hkn]; rw [← hkn] at e2; exact e2, e3⟩
    · rw [if_neg (nI_ge (by omega) (by omega)), of_s e2 (by omega) (by omega), Option.bind_some]
      have h8 := (j5 k (by omega)).1
      simp (disch := omega) only [nI_eq]
      have e : caS (fgS (upQ ρ 191 0) (ρ 37)) (k + 1) = if bkv (caS (fgS (upQ ρ 191 0) (ρ 37)) k) k 8 = 2 then caS (fgS (upQ ρ 191 0) (ρ 37)) k else cms (caS (fgS (upQ ρ 191 0) (ρ 37)) k) k := rfl
      by_cases z : bkv (caS (fgS (upQ ρ 191 0) (ρ 37)) k) k 8 = 2
      · rw [if_pos z]
        rw [if_pos z] at e
        exact ⟨_, rfl, by omega, nI_add _ _, by rw [e]; exact e2, e3⟩
      · rw [if_neg z]
        rw [if_neg z] at e
        obtain ⟨μ3, v1, v2, v3⟩ := comes_s e2 j2 (by omega) (b := k) (by rw [j1.1 37 (by omega)]; omega)
        rw [v1, Option.bind_some]
        exact ⟨_, rfl, by omega, nI_add _ _, by rw [e]; exact v2, Fr_tr e3 v3⟩
  unfold fX6_comeAnew
  simp only [l_0, l_191]
  rw [set_s C (by omega), Option.bind_some, a0, Option.bind_some]
  refine Ok_bind hl2 ?_
  intro μ2 h2
  exact ⟨_, rfl, h2⟩
end
