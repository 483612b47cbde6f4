/-! layer 2: a hostel of the class over a row -/
def HRm (σ : Mem) (j r : Nat) (ρ : RwQ) : Prop := rI σ 30 j r = nI (rmv ρ r 0) ∧ rI σ 31 j r = nI (rmv ρ r 1) ∧ rI σ 32 j r = nI (rmv ρ r 2) ∧ rI σ 33 j r = nI (rmv ρ r 3)
/-- booking b of hostel j is booking x of the row, but for its state -/
def HBk (σ : Mem) (j b : Nat) (ρ : RwQ) (x : Nat) : Prop := rI σ 40 j b = nI (bkv ρ x 0) ∧ rI σ 41 j b = nI (bkv ρ x 1) ∧ rI σ 42 j b = nI (bkv ρ x 2) ∧ rI σ 43 j b = nI (bkv ρ x 3) ∧ rI σ 44 j b = nI (prs ρ x) ∧ rI σ 45 j b = nI (bkv ρ x 4) ∧ rI σ 46 j b = nI (bkv ρ x 5) ∧ rI σ 47 j b = nI (bkv ρ x 6) ∧ rI σ 48 j b = nI (bkv ρ x 7)
def H0 (σ : Mem) (j : Nat) (ρ : RwQ) : Prop := rI σ 20 j 0 = nI (ρ 4) ∧ rI σ 21 j 0 = nI (allB ρ) ∧ rI σ 22 j 0 = nI (ρ 37) ∧ rI σ 24 j 0 = nI (ρ 0) ∧ rI σ 25 j 0 = nI (ρ 1) ∧ rI σ 26 j 0 = nI (ρ 2) ∧ rI σ 27 j 0 = nI (ρ 3) ∧ (∀ r, r < ρ 4 → HRm σ j r ρ) ∧ (∀ b, b < ρ 37 → HBk σ j b ρ b)
def Ht (σ : Mem) (j : Nat) (ρ : RwQ) : Prop := ∀ b, b < ρ 37 → rI σ 49 j b = nI (bkv ρ b 8)
def HQ (σ : Mem) (j : Nat) (ρ : RwQ) : Prop := rI σ 23 j 0 = nI (ρ 191) ∧ ∀ k, k < ρ 191 → rI σ 28 j k = nI (lstQ ρ k)
def HC (σ : Mem) (j : Nat) (ρ : RwQ) : Prop := ∀ n, n < 30 → rI σ 29 j n = nI (bkd ρ n)
def HR (σ : Mem) (j : Nat) (ρ : RwQ) : Prop := H0 σ j ρ ∧ Ht σ j ρ ∧ HQ σ j ρ ∧ HC σ j ρ
theorem HRm_fr {K : Nat → Nat → Nat → Prop} {σ σ2 : Mem} {j r : Nat} {ρ : RwQ} (h : HRm σ j r ρ) (F : FrQ K σ σ2) (hk : ∀ k r, 30 ≤ k → k ≤ 33 → ¬ K k j r) : HRm σ2 j r ρ := by
  unfold HRm
  rw [F.1 _ _ _ (hk 30 r (by omega) (by omega)), F.1 _ _ _ (hk 31 r (by omega) (by omega)), F.1 _ _ _ (hk 32 r (by omega) (by omega)), F.1 _ _ _ (hk 33 r (by omega) (by omega))]
  exact h
theorem HBk_fr {K : Nat → Nat → Nat → Prop} {σ σ2 : Mem} {j b x : Nat} {ρ : RwQ} (h : HBk σ j b ρ x) (F : FrQ K σ σ2) (hk : ∀ k, 40 ≤ k → k ≤ 48 → ¬ K k j b) : HBk σ2 j b ρ x := by
  unfold HBk
  rw [F.1 _ _ _ (hk 40 (by omega) (by omega)), F.1 _ _ _ (hk 41 (by omega) (by omega)), F.1 _ _ _ (hk 42 (by omega) (by omega)), F.1 _ _ _ (hk 43 (by omega) (by omega)), F.1 _ _ _ (hk 44 (by omega) (by omega)), F.1 _ _ _ (hk 45 (by omega) (by omega)), F.1 _ _ _ (hk 46 (by omega) (by omega)), F.1 _ _ _ (hk 47 (by omega) (by omega)), F.1 _ _ _ (hk 48 (by omega) (by omega))]
  exact h
theorem H0_fr {K : Nat → Nat → Nat → Prop} {σ σ2 : Mem} {j : Nat} {ρ : RwQ} (h : H0 σ j ρ) (F : FrQ K σ σ2) (hk : ∀ k r, 20 ≤ k → k ≤ 48 → k ≠ 23 → k ≠ 28 → k ≠ 29 → ¬ K k j r) : H0 σ2 j ρ := by
  obtain ⟨h1, h2, h3, h4, h5, h6, h7, h8, h9⟩ := h
  unfold H0
  rw [F.1 _ _ _ (hk 20 0 (by omega) (by omega) (by omega) (by omega) (by omega)), F.1 _ _ _ (hk 21 0 (by omega) (by omega) (by omega) (by omega) (by omega)), F.1 _ _ _ (hk 22 0 (by omega) (by omega) (by omega) (by omega) (by omega)), F.1 _ _ _ (hk 24 0 (by omega) (by omega) (by omega) (by omega) (by omega)), F.1 _ _ _ (hk 25 0 (by omega) (by omega) (by omega) (by omega) (by omega)), F.1 _ _ _ (hk 26 0 (by omega) (by omega) (by omega) (by omega) (by omega)), F.1 _ _ _ (hk 27 0 (by omega) (by omega) (by omega) (by omega) (by omega))]
  exact ⟨h1, h2, h3, h4, h5, h6, h7, fun r hr => HRm_fr (h8 r hr) F (fun k r a b => hk k r (by omega) (by omega) (by omega) (by omega) (by omega)), fun b hb => HBk_fr (h9 b hb) F (fun k a c => hk k b (by omega) (by omega) (by omega) (by omega) (by omega))⟩
theorem Ht_fr {K : Nat → Nat → Nat → Prop} {σ σ2 : Mem} {j : Nat} {ρ : RwQ} (h : Ht σ j ρ) (F : FrQ K σ σ2) (hk : ∀ r, ¬ K 49 j r) : Ht σ2 j ρ := fun b hb => by rw [F.1 _ _ _ (hk b)]; exact h b hb
theorem HQ_fr {K : Nat → Nat → Nat → Prop} {σ σ2 : Mem} {j : Nat} {ρ : RwQ} (h : HQ σ j ρ) (F : FrQ K σ σ2) (h1 : ¬ K 23 j 0) (hk : ∀ r, ¬ K 28 j r) : HQ σ2 j ρ := ⟨by rw [F.1 _ _ _ h1]; exact h.1, fun k q => by rw [F.1 _ _ _ (hk k)]; exact h.2 k q⟩
theorem HC_fr {K : Nat → Nat → Nat → Prop} {σ σ2 : Mem} {j : Nat} {ρ : RwQ} (h : HC σ j ρ) (F : FrQ K σ σ2) (hk : ∀ r, ¬ K 29 j r) : HC σ2 j ρ := fun n hn => by rw [F.1 _ _ _ (hk n)]; exact h n hn
theorem HR_fr {K : Nat → Nat → Nat → Prop} {σ σ2 : Mem} {j : Nat} {ρ : RwQ} (h : HR σ j ρ) (F : FrQ K σ σ2) (hk : ∀ k r, 20 ≤ k → k ≤ 49 → ¬ K k j r) : HR σ2 j ρ :=
  ⟨H0_fr h.1 F (fun k r a b _ _ _ => hk k r a (by omega)), Ht_fr h.2.1 F (fun r => hk 49 r (by omega) (by omega)), HQ_fr h.2.2.1 F (hk 23 0 (by omega) (by omega)) (fun r => hk 28 r (by omega) (by omega)), HC_fr h.2.2.2 F (fun r => hk 29 r (by omega) (by omega))⟩
theorem H0_same {σ : Mem} {j : Nat} {ρ ρ2 : RwQ} (h : H0 σ j ρ) (hS : SameQ ρ ρ2) (h8 : ρ 4 ≤ 8) (h17 : ρ 37 ≤ 17) : H0 σ j ρ2 := by
  obtain ⟨h1, h2, h3, h4, h5, h6, h7, h8', h9⟩ := h
  unfold H0
  rw [hS.1 4 (by omega), hS.1 37 (by omega), hS.1 0 (by omega), hS.1 1 (by omega), hS.1 2 (by omega), hS.1 3 (by omega), Same_allB hS h8]
  refine ⟨h1, h2, h3, h4, h5, h6, h7, fun r hr => ?_, fun b hb => ?_⟩
  · have := h8' r hr
    unfold HRm at this ⊢
    rw [Same_rmv hS (by omega) (by omega), Same_rmv hS (by omega) (by omega), Same_rmv hS (by omega) (by omega), Same_rmv hS (by omega) (by omega)]
    exact this
  · have := h9 b hb
    unfold HBk at this ⊢
    rw [Same_prs hS (by omega), hS.2 b 0 (by omega) (by omega), hS.2 b 1 (by omega) (by omega), hS.2 b 2 (by omega) (by omega), hS.2 b 3 (by omega) (by omega), hS.2 b 4 (by omega) (by omega), hS.2 b 5 (by omega) (by omega), hS.2 b 6 (by omega) (by omega), hS.2 b 7 (by omega) (by omega)]
    exact this
/-! its methods -/
theorem nI_addneg {a b : Nat} (h : b ≤ a) : nI a + (-nI b) = nI (a - b) := by
  rw [← pk_sub h, Int32.sub_eq_add_neg]
theorem stays_h {σ : Mem} {j b f g n : Nat} (h1 : rI σ 40 j b = nI f) (h2 : rI σ 41 j b = nI g) (hf : f < 2 ^ 20) (hg : g < 2 ^ 20) (hn : n < 2 ^ 20) : fX0_staysIn j b (nI n) σ = some (nI (b1 (decide (f ≤ n ∧ n < f + g)))) := by
  unfold fX0_staysIn jX0_staysIn_25
  rw [h1, h2]
  simp (disch := omega) only [l_0, l_1, l_2, l_3, l_4, l_5, l_6, l_7, l_8, l_9, l_10, l_11, l_12, l_16, l_17, l_20, l_24, l_29, l_30, l_31, l_32, l_35, l_37, l_38, l_43, l_44, l_47, l_48, l_50, l_56, l_57, l_59, l_60, l_63, l_80, l_96, l_97, l_98, l_99, l_100, l_101, l_102, l_103, l_104, l_105, l_107, l_108, l_109, l_110, l_111, l_114, l_115, l_116, l_118, l_119, l_120, l_122, l_160, l_191, l_192, l_193, l_200, l_205, l_208, l_209, l_210, l_211, l_255, l_300, l_700, l_2400, l_252645135, l_858993459, l_1431655765, nI_add, pk_mul, nI_leI, nI_ltI, nI_eq, nI_clamp, inb_nI, Option.bind_some, ↓reduceIte, not_false_eq_true, not_true_eq_false]
  by_cases q1 : n < f
  · rw [if_pos q1, decide_eq_false (by omega)] <;> rfl
  · by_cases q2 : f + g ≤ n
    · rw [if_neg q1, if_pos q2, decide_eq_false (by omega)] <;> rfl
    · rw [if_neg q1, if_neg q2, decide_eq_true (by omega)] <;> rfl
theorem staysB_h {σ : Mem} {j b x n : Nat} {ρ : RwQ} (h : HBk σ j b ρ x) (hw : WFb ρ x) (hn : n < 2 ^ 20) : fX0_staysIn j b (nI n) σ = some (nI (b1 (staysQ ρ x n))) := by
  obtain ⟨w1, w2, -⟩ := hw
  exact stays_h h.1 h.2.1 (by omega) (by omega) hn
/-- the persons of the nights from f, n of them, grow by v -/
theorem addTo_h {σ : Mem} {j j1 b f g : Nat} {v : Int32} (h1 : rI σ 40 j1 b = nI f) (h2 : rI σ 41 j1 b = nI g) (hf : f < 30) (hg : f + g ≤ 30) : OkQ (fX1_addToCrowd j j1 b v σ) (fun σ2 => (∀ n, n < 30 → rI σ2 29 j n = if f ≤ n ∧ n < f + g then rI σ 29 j n + v else rI σ 29 j n) ∧ FrQ (fun k x _ => k = 29 ∧ x = j) σ σ2) := by
  have hl : OkQ (loop (stX1_addToCrowd_24 σ j1 b j v) 5000 (rI σ 40 j1 b, σ)) (fun σ2 => (∀ n, n < 30 → rI σ2 29 j n = if f ≤ n ∧ n < f + g then rI σ 29 j n + v else rI σ 29 j n) ∧ FrQ (fun k x _ => k = 29 ∧ x = j) σ σ2) := by
    refine loop_ok g (fun i a => a.1 = nI (f + i) ∧ (∀ n, n < 30 → rI a.2 29 j n = if f ≤ n ∧ n < f + i then rI σ 29 j n + v else rI σ 29 j n) ∧ FrQ (fun k x _ => k = 29 ∧ x = j) σ a.2) (by omega) ⟨h1, fun n hn => by rw [if_neg (by omega)], Fr_rfl σ⟩ ?_
    rintro i ⟨a1, a2⟩ hi ⟨e1, e2, F⟩
    try dsimp only at e1 e2 F
    subst e1
    have hmin : (if nI 30 < nI f + nI g then nI 30 else nI f + nI g) = nI (f + g) := by rw [nI_add, if_neg (nI_nlt (by omega) (by omega))]
    unfold stX1_addToCrowd_24
    simp only [l_1, l_30]
    rw [h1, h2, hmin]
    try dsimp only
    by_cases hin : i = g
    · subst hin
      rw [if_pos (nI_le (Nat.le_refl _) (by omega))]
      exact ⟨_, rfl, e2, F⟩
    · rw [if_neg (nI_ge (by omega) (by omega)), gd_inb (by omega) (by omega), nI_clamp (by omega), nI_add]
      refine ⟨_, rfl, by omega, ?_, ?_, ?_⟩
      · rw [Nat.add_assoc]
      · intro n hn
        show rI (wI a2 29 j (f + i) _) 29 j n = _
        rw [rI_wI]
        by_cases hni : n = f + i
        · subst hni
          rw [if_pos ⟨rfl, rfl, rfl⟩, if_pos (by omega), e2 _ hn, if_neg (by omega)]
        · rw [if_neg (fun q => hni q.2.2), e2 n hn]
          by_cases hc : f ≤ n ∧ n < f + i
          · rw [if_pos hc, if_pos (by omega)]
          · rw [if_neg hc, if_neg (by omega)]
      · exact Fr_tr F (Fr_wI ⟨rfl, rfl⟩)
  unfold fX1_addToCrowd
  refine Ok_bind hl ?_
  intro σ2 h
  exact ⟨_, rfl, h⟩
/-- a booking is accepted -/
theorem accept_c {σ : Mem} {j b f g p : Nat} (h1 : rI σ 40 j b = nI f) (h2 : rI σ 41 j b = nI g) (h3 : rI σ 44 j b = nI p) (hf : f < 30) (hg : f + g ≤ 30) : OkQ (fX1_accept j j b σ) (fun σ2 => (∀ n, n < 30 → rI σ2 29 j n = if f ≤ n ∧ n < f + g then rI σ 29 j n + nI p else rI σ 29 j n) ∧ rI σ2 49 j b = nI 1 ∧ FrQ (fun k x r => (k = 29 ∨ k = 49 ∧ r = b) ∧ x = j) σ σ2) := by
  have F1 : FrQ (fun k x r => (k = 29 ∨ k = 49 ∧ r = b) ∧ x = j) σ (wI σ 49 j b (nI 1)) := Fr_wI ⟨Or.inr ⟨rfl, rfl⟩, rfl⟩
  unfold fX1_accept
  simp only [l_1]
  refine Ok_bind (addTo_h (f := f) (g := g) (by rw [rI_wI, if_neg (by omega)]; exact h1) (by rw [rI_wI, if_neg (by omega)]; exact h2) hf hg) ?_
  rintro σ2 ⟨g1, g2⟩
  have F2 : FrQ (fun k x r => (k = 29 ∨ k = 49 ∧ r = b) ∧ x = j) σ σ2 := Fr_tr F1 (Fr_mono g2 (fun k x r q => ⟨Or.inl q.1, q.2⟩))
  refine ⟨_, rfl, ?_, ?_, F2⟩
  · intro n hn
    have e1 : rI (wI σ 49 j b (nI 1)) 29 j n = rI σ 29 j n := by rw [rI_wI, if_neg (by omega)]
    have e2 : rI (wI σ 49 j b (nI 1)) 44 j b = nI p := by rw [rI_wI, if_neg (by omega)]; exact h3
    rw [g1 n hn, e1, e2]
  · rw [g2.1 49 j b (by omega), rI_wI, if_pos ⟨rfl, rfl, rfl⟩]
/-- the nights' persons, behind an acceptance -/
theorem acc_HC {σ σ2 : Mem} {j b : Nat} {ρ : RwQ} (hc : HC σ j ρ) (hb : b < ρ 37) (h17 : ρ 37 ≤ 17) (hs : bkv ρ b 8 ≠ 1) (g1 : ∀ n, n < 30 → rI σ2 29 j n = if bkv ρ b 0 ≤ n ∧ n < bkv ρ b 0 + bkv ρ b 1 then rI σ 29 j n + nI (prs ρ b) else rI σ 29 j n) : HC σ2 j (setBQ ρ b 8 1) := by
  intro n hn
  have hbk := bkd_st (ρ := ρ) (b := b) (v := 1) (n := n) hb h17
  have h0' : bkdT ρ n b = 0 := if_neg (fun q => hs q.1)
  rw [g1 n hn, hc n hn]
  by_cases q : bkv ρ b 0 ≤ n ∧ n < bkv ρ b 0 + bkv ρ b 1
  · rw [if_pos ⟨rfl, decide_eq_true q⟩] at hbk
    rw [if_pos q, nI_add]
    congr 1
    omega
  · rw [if_neg (fun w => q (of_decide_eq_true w.2))] at hbk
    rw [if_neg q]
    congr 1
    omega
theorem accept_h {σ : Mem} {j b : Nat} {ρ : RwQ} (h0 : H0 σ j ρ) (ht : Ht σ j ρ) (hc : HC σ j ρ) (hW : WF ρ) (hb : b < ρ 37) (hs : bkv ρ b 8 ≠ 1) : OkQ (fX1_accept j j b σ) (fun σ2 => H0 σ2 j (setBQ ρ b 8 1) ∧ Ht σ2 j (setBQ ρ b 8 1) ∧ HC σ2 j (setBQ ρ b 8 1) ∧ FrQ (fun k x _ => (k = 29 ∨ k = 49) ∧ x = j) σ σ2) := by
  have h17 := hW.2.1
  have hw := hW.2.2.2.2 b hb
  have hB := h0.2.2.2.2.2.2.2.2 b hb
  refine Ok_mono (accept_c hB.1 hB.2.1 hB.2.2.2.2.1 hw.1 hw.2.1.2) ?_
  rintro σ2 ⟨g1, g2, g3⟩
  have F2 : FrQ (fun k x _ => (k = 29 ∨ k = 49) ∧ x = j) σ σ2 := Fr_mono g3 (fun k x r q => by omega)
  refine ⟨?_, ?_, acc_HC hc hb h17 hs g1, F2⟩
  · exact H0_same (H0_fr h0 F2 (fun k r _ _ _ _ _ => by omega)) (Same_st (by omega)) hW.1 h17
  · intro x hx
    rw [setB_lo (by omega)] at hx
    rw [bkv_setB (by omega) (by omega)]
    by_cases h : x = b
    · subst h
      rw [if_pos ⟨rfl, rfl⟩]; exact g2
    · rw [if_neg (fun q => h q.1), g3.1 49 j x (by omega)]
      exact ht x hx
/-- whether a group can be accepted: crowd, beds and limit as those of the row -/
theorem canAcc_h {σ : Mem} {j b x : Nat} {ρ : RwQ} (hW : WF ρ) (hx : x < ρ 37) (hB : HBk σ j b ρ x) (h21 : rI σ 21 j 0 = nI (allB ρ)) (h24 : rI σ 24 j 0 = nI (ρ 0)) (hc : HC σ j ρ) : fX1_canAccept j j b σ = some (nI (b1 (canA ρ x))) := by
  have h17 := hW.2.1
  have hwb := hW.2.2.2.2 x hx
  have hal := allB_le hW
  have h0 := hW.2.2.1.1
  have hp := WF_prs hW hx
  have hm := most_le hW
  have eM : nI (allB ρ) * (nI 100 + nI (ρ 0)) / nI 100 = nI (most ρ) := by
    have h3 : allB ρ * (100 + ρ 0) ≤ 80 * 150 := Nat.mul_le_mul hal (by omega)
    rw [nI_add, pk_mul, pk_div (by omega) (by omega) (by omega)] <;> rfl
  have hstep : ∀ k, k < 30 → stX1_canAccept_18 j b σ j (nI k) = if capQ ρ x k = true then some (.inr (.inr (nI 0))) else some (.inl (nI (k + 1))) := by
    intro k hk
    have hbk := bkd_le hW k
    unfold stX1_canAccept_18 jX1_canAccept_52
    simp only [l_0, l_1, l_30, l_100]
    rw [h21, h24, eM, hB.2.2.2.2.1]; simp (disch := omega) only [nI_leI]; rw [if_neg (by omega), staysB_h hB hwb (by omega), Option.bind_some]; simp (disch := omega) only [b1_z]; rw [gd_inb hk (by omega), nI_clamp (by omega), hc k hk]
    simp (disch := omega) only [l_0, l_1, l_2, l_3, l_4, l_5, l_6, l_7, l_8, l_9, l_10, l_11, l_12, l_16, l_17, l_20, l_24, l_29, l_30, l_31, l_32, l_35, l_37, l_38, l_43, l_44, l_47, l_48, l_50, l_56, l_57, l_59, l_60, l_63, l_80, l_96, l_97, l_98, l_99, l_100, l_101, l_102, l_103, l_104, l_105, l_107, l_108, l_109, l_110, l_111, l_114, l_115, l_116, l_118, l_119, l_120, l_122, l_160, l_191, l_192, l_193, l_200, l_205, l_208, l_209, l_210, l_211, l_255, l_300, l_700, l_2400, l_252645135, l_858993459, l_1431655765, nI_add, pk_mul, nI_leI, nI_ltI, nI_eq, nI_clamp, inb_nI, Option.bind_some, ↓reduceIte, not_false_eq_true, not_true_eq_false]
    unfold capQ
    by_cases hs : staysQ ρ x k = true
    · rw [if_neg (by rw [hs]; decide), hs, Bool.true_and]
      by_cases hcc : bkd ρ k + prs ρ x ≤ most ρ
      · rw [if_pos hcc, if_neg (by rw [decide_eq_true_iff]; omega)]
      · rw [if_neg hcc, if_pos (by rw [decide_eq_true_iff]; omega)]
    · have hs2 : staysQ ρ x k = false := by simpa using hs
      rw [if_pos hs2, hs2, Bool.false_and, if_neg (by decide)]
  have e : loop (stX1_canAccept_18 j b σ j) 5000 (nI 0) = some (if canA ρ x = true then .inl () else .inr (nI 0)) := by
    have hle := fstN_le (capQ ρ x) 30
    refine loop_st (fstN (capQ ρ x) 30) (fun k => nI k) (by omega) rfl ?_ ?_
    · intro k hk
      show stX1_canAccept_18 _ _ _ _ (nI k) = _
      rw [hstep k (by omega), if_neg (by rw [fstN_no hk]; decide)]
    · show stX1_canAccept_18 _ _ _ _ (nI (fstN (capQ ρ x) 30)) = _
      by_cases h : fstN (capQ ρ x) 30 = 30
      · rw [h, if_pos (canA_cap.mpr h)]
        unfold stX1_canAccept_18
        exact if_pos (by decide)
      · rw [hstep _ (by omega), if_pos (fstN_yes (by omega)), if_neg (fun q => h (canA_cap.mp q))]
  unfold fX1_canAccept
  simp only [l_0, l_1]
  rw [e, Option.bind_some]
  cases canA ρ x <;> rfl
