/-! layer 2: the net without a booking, the best stay -/
theorem EqP_same {ρ ρ2 : RwQ} (hS : SameQ ρ ρ2) (h17 : ρ 37 ≤ 17) (h : ∀ b, b < ρ 37 → (bkv ρ2 b 8 = 1 ↔ bkv ρ b 8 = 1)) : EqP ρ ρ2 :=
  ⟨fun k _ hk => hS.1 k (by omega), fun b w hb hw _ => hS.2 b w (by omega) hw, h⟩
section
variable {σ μ : Mem} {ρ : RwQ} {f n w m a c : Nat}
theorem H0_nights {j : Nat} (h8 : ρ 4 ≤ 8) (h0 : H0 σ j (trB ρ f n w m a c)) (ht : Ht σ j (trB ρ f n w m a c)) (n2 : Nat) : H0 (wI σ 41 j (ρ 37) (nI n2)) j (trB ρ f n2 w m a c) ∧ Ht (wI σ 41 j (ρ 37) (nI n2)) j (trB ρ f n2 w m a c) := by
  have F : FrQ (fun k x r => k = 41 ∧ x = j ∧ r = ρ 37) σ (wI σ 41 j (ρ 37) (nI n2)) := Fr_wI ⟨rfl, rfl, rfl⟩
  have lo : ∀ k, k < 38 → trB ρ f n2 w m a c k = trB ρ f n w m a c k := fun k hk => by
    by_cases q : k = 37
    · rw [q, trB_37, trB_37]
    · unfold trB
      rw [setB_lo (by omega), setB_lo (by omega), layB_lo (by omega), layB_lo (by omega)]
  obtain ⟨a1, a2, a3, a4, a5, a6, a7, a8, a9⟩ := h0
  have e4 : trB ρ f n w m a c 4 = ρ 4 := by
    unfold trB
    rw [setB_lo (by omega), layB_lo (by omega)]
  have eA : allB (trB ρ f n2 w m a c) = allB (trB ρ f n w m a c) := by
    unfold allB
    rw [lo 4 (by omega), e4]
    exact sumN_congr (fun r hr => lo _ (by omega))
  have bk : ∀ b k, k < 9 → (b = ρ 37 → k ≠ 1) → bkv (trB ρ f n2 w m a c) b k = bkv (trB ρ f n w m a c) b k := fun b k hk hb => by
    rw [trB_bk hk, trB_bk hk]
    by_cases q : b = ρ 37
    · rw [if_pos q, if_pos q, if_neg (hb q), if_neg (hb q)]
    · rw [if_neg q, if_neg q]
  refine ⟨⟨?_, ?_, ?_, ?_, ?_, ?_, ?_, fun r hr => ?_, fun b hb => ?_⟩, fun b hb => ?_⟩
  · rw [F.1 20 j 0 (by omega), lo 4 (by omega)]; exact a1
  · rw [F.1 21 j 0 (by omega), eA]; exact a2
  · rw [F.1 22 j 0 (by omega), lo 37 (by omega)]; exact a3
  · rw [F.1 24 j 0 (by omega), lo 0 (by omega)]; exact a4
  · rw [F.1 25 j 0 (by omega), lo 1 (by omega)]; exact a5
  · rw [F.1 26 j 0 (by omega), lo 2 (by omega)]; exact a6
  · rw [F.1 27 j 0 (by omega), lo 3 (by omega)]; exact a7
  · rw [lo 4 (by omega)] at hr
    have h8' := a8 r hr
    rw [e4] at hr
    unfold HRm at h8' ⊢
    have er : ∀ k, k < 4 → rmv (trB ρ f n2 w m a c) r k = rmv (trB ρ f n w m a c) r k := fun k hk => lo _ (by omega)
    rw [er 0 (by omega), er 1 (by omega), er 2 (by omega), er 3 (by omega), F.1 30 j r (by omega), F.1 31 j r (by omega), F.1 32 j r (by omega), F.1 33 j r (by omega)]
    exact h8'
  · rw [lo 37 (by omega)] at hb
    have h9 := a9 b hb
    unfold HBk prs at h9 ⊢
    rw [bk b 0 (by omega) (by omega), bk b 2 (by omega) (by omega), bk b 3 (by omega) (by omega), bk b 4 (by omega) (by omega), bk b 5 (by omega) (by omega), bk b 6 (by omega) (by omega), bk b 7 (by omega) (by omega), F.1 40 j b (by omega), F.1 42 j b (by omega), F.1 43 j b (by omega), F.1 44 j b (by omega), F.1 45 j b (by omega), F.1 46 j b (by omega), F.1 47 j b (by omega), F.1 48 j b (by omega)]
    refine ⟨h9.1, ?_, h9.2.2⟩
    by_cases q : b = ρ 37
    · rw [q, rI_wI_self, trB_bk (by omega), if_pos rfl, if_neg (by omega), if_neg (by omega), if_neg (by omega), if_neg (by omega), if_neg (by omega), if_neg (by omega), if_neg (by omega), if_pos rfl]
    · rw [F.1 41 j b (by omega), bk b 1 (by omega) (fun z => absurd z q)]; exact h9.2.1
  · rw [lo 37 (by omega)] at hb
    rw [F.1 49 j b (by omega), bk b 8 (by omega) (by omega)]; exact ht b hb
theorem ANm_netWithout (hIn : InQ σ μ) (p1 : Int32) : ANm (fX5_netWithout p1 σ) (fX6_netWithout p1 μ) [(3, 1)] InQ := by
  obtain ⟨ρ, h1, C, h3, hN, h5, h6, h7⟩ := id hIn
  have h16 := h3.2.2
  have C0 := cur0 C
  have hlt0 := I1_lt h1
  have hlt1 : rP σ 1 < 12 := by have := h1.1.2.1; omega
  rcases ix_em p1 (ρ 37) with ⟨b, hb, rfl⟩ | q
  · have h8 : bkv ρ b 8 ≤ 2 := (h3.1.2.2.2.2 b hb).2.2.2.2.2.2.2
    obtain ⟨μ1, r0, r1, r2⟩ := begin_s (row0_C C0)
    by_cases q8 : bkv ρ b 8 = 1
    · obtain ⟨σ1, c0, c1, c2, c3, c4⟩ := copy_h (σ := σ) (j := rP σ 1) (j1 := rP σ 0) h1.1.2.2 h1.2.1 h3.1 h3.2.1.2.1
      have hP1 : rP σ1 1 = rP σ 1 := FrG_P c4 1
      obtain ⟨σ2, d0, d1, d2⟩ := drop_h c1 h3.1 h3.2.1 hb
      obtain ⟨x1, x2, x3, x4⟩ := drp_WF h3.1 h3.2.1 hb
      have hP2 : rP σ2 1 = rP σ 1 := by rw [Fr_P d2 1, hP1]
      obtain ⟨⟨v, σ3⟩, m0, m1, m2⟩ := spareNet_h hP2 hlt1 d1.1 d1.2.1 x1
      try dsimp only at m1 m2
      have hST : STQ (rP σ 1) σ σ3 := ST_tr (ST_tr (ST_G c4 (fun k x r z => Or.inr (Or.inl z)) (fun k x r z => Or.inr z)) (ST_fr d2 (fun k x r z => Or.inr (Or.inl z)))) (ST_make m2)
      have hE : EqP (setBQ ρ b 8 2) (drp ρ b) := by
        refine EqP_same (Same_tr (Same_sy (Same_st (by omega))) x3) (by rw [setB_lo (by omega)]; omega) (fun x hx => ?_)
        rw [setB_lo (by omega)] at hx
        rw [x4 x (by omega), bkv_setB (by omega) (by omega)]
        by_cases z : x = b
        · rw [if_pos z, if_pos ⟨z, rfl⟩]
        · rw [if_neg z, if_neg (fun y => z y.1)]
      have hW2 : WF (setBQ ρ b 8 2) := WF_st h3.1 (by omega) (by omega)
      have C2 := lay_C r1 (b := b) (w := 8) (by omega) (by omega) 2
      have F2 := lay_F r1 (b := b) (w := 8) (by omega) (by omega) (nI 2)
      obtain ⟨⟨v2, μ3⟩, t0, t1, t2, t3⟩ := netNow_s C2 hW2
      try dsimp only at t1 t2 t3
      have FT : FrQ KT (wI μ 60 0 0 (nI 0)) μ3 := Fr_tr (Fr_tr r2 (Fr_mono F2 (fun k j r z => KR1_KT z))) (Fr_mono t3 (fun k j r z => KPm_KT z))
      refine Or.inl ⟨v, σ3, ?_, ?_⟩
      · unfold fX5_netWithout
        simp only [l_1]
        rw [chkB_Y h1 h3 hb, Option.bind_some, Sum.elim_inl, gd_pos hlt0, gd_inb (by omega) (by omega), nI_clamp (by omega), h1.2.1.2.1 b hb, if_pos (by rw [q8]), gd_pos hlt1, c0, Option.bind_some, hP1, gd_pos hlt1, d0, Option.bind_some, m0, Option.bind_some]
      · unfold fX6_netWithout jX6_netWithout_42
        simp only [l_0, l_1, l_2, l_8]
        rw [isBooking_Y C0 hb (by omega), Option.bind_some, if_pos (by decide), r0, Option.bind_some, of_s r1 (by omega) (by omega), Option.bind_some, if_neg (fun z => z (by rw [q8])), lay_s r1 (by omega) (by omega), Option.bind_some, t0, Option.bind_some]
        refine ⟨_, rfl, ?_, ?_, ?_⟩
        · show v2 = v
          rw [t1, m1, net_c hE hW2]
        · show rI μ3 60 0 0 = _
          rw [FT.1 60 0 0 (by unfold KT; omega), rI_wI_self]
        · exact In_qt (In_st hIn hST rfl) (tr_QT C FT)
    · obtain ⟨⟨v2, μ3⟩, t0, t1, t2, t3⟩ := netNow_s r1 h3.1
      try dsimp only at t1 t2 t3
      have FT : FrQ KT (wI μ 60 0 0 (nI 0)) μ3 := Fr_tr r2 (Fr_mono t3 (fun k j r z => KPm_KT z))
      refine Or.inl ⟨netV ρ, σ, ?_, ?_⟩
      · unfold fX5_netWithout
        simp only [l_1]
        rw [chkB_Y h1 h3 hb, Option.bind_some, Sum.elim_inl, gd_pos hlt0, gd_inb (by omega) (by omega), nI_clamp (by omega), h1.2.1.2.1 b hb, if_neg (nI_ne (by omega) (by omega) q8), h1.2.2.2.2.1, h1.2.2.2.2.2]
        rfl
      · unfold fX6_netWithout jX6_netWithout_42
        simp only [l_0, l_1, l_2, l_8]
        rw [isBooking_Y C0 hb (by omega), Option.bind_some, if_pos (by decide), r0, Option.bind_some, of_s r1 (by omega) (by omega), Option.bind_some, if_pos (nI_ne (by omega) (by omega) q8), t0, Option.bind_some]
        refine ⟨_, rfl, t1, ?_, ?_⟩
        · show rI μ3 60 0 0 = _
          rw [FT.1 60 0 0 (by unfold KT; omega), rI_wI_self]
        · exact In_qt hIn (tr_QT C FT)
  · refine ANm_no hIn 3 1 (by decide) ?_ ?_
    · unfold fX5_netWithout
      rw [chkB_N h1 h3 q, Option.bind_some, Sum.elim_inr]
    · unfold fX6_netWithout
      simp only [l_0, l_1]
      rw [isBooking_N C0 (by omega) q, Option.bind_some, if_neg (by decide)]
      exact ref_no 1
def bsS (ρ : RwQ) (f w m a : Nat) : Nat → Nat × Int32
  | 0 => (0, 0)
  | k + 1 => if (bsS ρ f w m a k).1 = 0 ∨ (bsS ρ f w m a k).2 < netV (trB ρ f (k + 1) w m a 0) then (k + 1, netV (trB ρ f (k + 1) w m a 0)) else bsS ρ f w m a k
theorem bsS_le : ∀ k, (bsS ρ f w m a k).1 ≤ k := by
  intro k
  induction k with
  | zero => exact Nat.le_refl _
  | succ k ih =>
    show (if _ then _ else _ : Nat × Int32).1 ≤ _
    split
    · exact Nat.le_refl _
    · omega
theorem bestStayC_h (h1 : I1 σ ρ) (h3 : I3 ρ) (hf : f ≤ 29) (hw : w ≤ 12) (hm : (if w = 0 then 1 else 0) ≤ m ∧ m ≤ 12 - w) (ha : a ≤ 99) : OkQ (fX5_bestStay (nI f) (nI w) (nI m) (nI a) σ) (fun r => r.1 = .inl (nI (bsS ρ f w m a (30 - f)).1) ∧ STQ (rP σ 1) σ r.2) := by
  have h16 := h3.2.2
  have hlt1 : rP σ 1 < 12 := by have := h1.1.2.1; omega
  have hS : VS (nI f) (nI 1) := ⟨f, 1, hf, by omega, rfl, rfl⟩
  have hH : VH (nI w) (nI m) (nI a) := ⟨w, m, a, hw, hm, ha, rfl, rfl, rfl⟩
  obtain ⟨⟨b0, σ2⟩, c0, c1, c2, c3, c4⟩ := spare_h h1 h3 (f := f) (n := 1) (w := w) (m := m) (a := a)
  try dsimp only at c1 c2 c3 c4
  subst c1
  have hl : OkQ (loop (stX5_bestStay_42 (nI f) (nI (ρ 37), σ2)) 5000 (nI 0, nI 0, nI 1, σ2)) (fun r => r.1 = nI (bsS ρ f w m a (30 - f)).1 ∧ STQ (rP σ 1) σ r.2) := by
    refine loop_ok (30 - f) (fun k q => q.1 = nI (bsS ρ f w m a k).1 ∧ q.2.1 = (bsS ρ f w m a k).2 ∧ q.2.2.1 = nI (k + 1) ∧ (∃ n, H0 q.2.2.2 (rP σ 1) (trB ρ f n w m a 100) ∧ Ht q.2.2.2 (rP σ 1) (trB ρ f n w m a 100)) ∧ STQ (rP σ 1) σ q.2.2.2) (by omega) ⟨rfl, rfl, rfl, ⟨1, c2, c3⟩, c4⟩ ?_
    rintro k ⟨q1, q2, q3, q4⟩ hk ⟨e1, e2, e3, ⟨n, e4, e5⟩, e6⟩
    try dsimp only at e1 e2 e3 e4 e5 e6
    subst e1 e2 e3
    have hle := bsS_le (ρ := ρ) (f := f) (w := w) (m := m) (a := a) k
    unfold stX5_bestStay_42 jX5_bestStay_76 jX5_bestStay_84
    simp only [l_0, l_1, l_30]
    rw [pk_sub (by omega), c4.2.2 1, nI_clamp (by omega)]
    by_cases hkn : k = 30 - f
    · rw [if_pos (nI_lt (by omega) (by omega))]
      exact ⟨_, rfl, by rw [hkn], e6⟩
    · rw [if_neg (nI_nlt (by omega) (by omega))]
      obtain ⟨g1, g2⟩ := H0_nights h3.1.1 e4 e5 (k + 1)
      have hW : ∀ c, c ≤ 100 → WF (trB ρ f (k + 1) w m a c) := fun c hc => trB_WF h3.1 h16 hf (by omega) hw hm ha hc
      obtain ⟨⟨v, σ5⟩, n0, n1, n2⟩ := spareNet_h (σ := wI q4 41 (rP σ 1) (ρ 37) (nI (k + 1))) (j := rP σ 1) (e6.2.2 1) hlt1 g1 g2 (hW 100 (by omega))
      try dsimp only at n1 n2
      have hST : STQ (rP σ 1) σ σ5 := ST_tr e6 (ST_tr (ST_fr (Fr_wI (K := fun k x _ => k = 41 ∧ x = rP σ 1) ⟨rfl, rfl⟩) (fun k x r z => Or.inr (Or.inl ⟨by omega, z.2⟩))) (ST_make n2))
      have hH0 : H0 σ5 (rP σ 1) (trB ρ f (k + 1) w m a 100) := H0_fr g1 n2 (fun k r y1 y2 _ _ _ => by unfold KPc; omega)
      have hHt : Ht σ5 (rP σ 1) (trB ρ f (k + 1) w m a 100) := Ht_fr g2 n2 (fun r => by unfold KPc; omega)
      have ev : v = netV (trB ρ f (k + 1) w m a 0) := by rw [n1, net_c (trB_EqP (c2 := 100)) (hW 0 (by omega))]
      have eb : bsS ρ f w m a (k + 1) = if (bsS ρ f w m a k).1 = 0 ∨ (bsS ρ f w m a k).2 < v then (k + 1, v) else bsS ρ f w m a k := by rw [ev] <;> rfl
      rw [n0, Option.bind_some]; simp (disch := omega) only [nI_eq]
      by_cases z : (bsS ρ f w m a k).1 = 0
      · rw [if_pos z]
        rw [if_pos (Or.inl z)] at eb
        exact ⟨_, rfl, by omega, by rw [eb], by rw [eb], nI_add _ _, ⟨k + 1, hH0, hHt⟩, hST⟩
      · rw [if_neg z]
        by_cases z2 : (bsS ρ f w m a k).2 < v
        · rw [if_neg (Int32.not_le.mpr z2)]
          rw [if_pos (Or.inr z2)] at eb
          exact ⟨_, rfl, by omega, by rw [eb], by rw [eb], nI_add _ _, ⟨k + 1, hH0, hHt⟩, hST⟩
        · rw [if_pos (Int32.not_lt.mp z2)]
          rw [if_neg (fun y => y.elim z z2)] at eb
          exact ⟨_, rfl, by omega, by rw [eb], by rw [eb], nI_add _ _, ⟨k + 1, hH0, hHt⟩, hST⟩
  unfold fX5_bestStay
  simp only [l_0, l_1]
  rw [chkG_Y hS hH, Option.bind_some, Sum.elim_inl, c0, Option.bind_some, gd_pos (by show rP σ2 1 < 12; rw [c4.2.2 1]; exact hlt1), gd_inb (by omega) (by omega)]
  refine Ok_bind hl ?_
  rintro ⟨r1, r2⟩ ⟨x1, x2⟩
  exact ⟨_, rfl, by rw [← x1], x2⟩
theorem bestStayR_s (C : Cur μ 0 ρ) (h3 : I3 ρ) (hf : f ≤ 29) (hw : w ≤ 12) (hm : (if w = 0 then 1 else 0) ≤ m ∧ m ≤ 12 - w) (ha : a ≤ 99) : OkQ (loop (stX6_bestStay_37 (nI f) (nI w) (nI m) (nI a)) 5000 (nI 0, nI 0, nI 1, wI μ 60 0 0 (nI 0))) (fun r => r.1 = nI (bsS ρ f w m a (30 - f)).1 ∧ FrQ KT (wI μ 60 0 0 (nI 0)) r.2) := by
  have h16 := h3.2.2
  have C0 := cur0 C
  refine loop_ok (30 - f) (fun k q => q.1 = nI (bsS ρ f w m a k).1 ∧ q.2.1 = (bsS ρ f w m a k).2 ∧ q.2.2.1 = nI (k + 1) ∧ FrQ KT (wI μ 60 0 0 (nI 0)) q.2.2.2) (by omega) ⟨rfl, rfl, rfl, Fr_rfl _⟩ ?_
  rintro k ⟨q1, q2, q3, q4⟩ hk ⟨e1, e2, e3, e4⟩
  try dsimp only at e1 e2 e3 e4
  subst e1 e2 e3
  have hle := bsS_le (ρ := ρ) (f := f) (w := w) (m := m) (a := a) k
  unfold stX6_bestStay_37 jX6_bestStay_82 jX6_bestStay_90
  simp only [l_0, l_1, l_30]
  rw [pk_sub (by omega)]
  by_cases hkn : k = 30 - f
  · rw [if_pos (nI_lt (by omega) (by omega))]
    exact ⟨_, rfl, by rw [hkn], e4⟩
  · rw [if_neg (nI_nlt (by omega) (by omega))]
    have hW : WF (trB ρ f (k + 1) w m a 0) := trB_WF h3.1 h16 hf (by omega) hw hm ha (by omega)
    obtain ⟨μ1, r0, r1, r2⟩ := begin_s (row0_T e4 (row0_C C0))
    obtain ⟨μ2, s0, s1, s2⟩ := adds_s r1 h16 (f := f) (n := k + 1) (w := w) (m := m) (a := a)
    obtain ⟨⟨v, μ3⟩, t0, t1, t2, t3⟩ := netNow_s s1 hW
    try dsimp only at t1 t2 t3
    have FT : FrQ KT (wI μ 60 0 0 (nI 0)) μ3 := Fr_tr e4 (Fr_tr (Fr_tr r2 (Fr_mono s2 (fun k j r z => KR1_KT z))) (Fr_mono t3 (fun k j r z => KPm_KT z)))
    have eb : bsS ρ f w m a (k + 1) = if (bsS ρ f w m a k).1 = 0 ∨ (bsS ρ f w m a k).2 < v then (k + 1, v) else bsS ρ f w m a k := by rw [t1] <;> rfl
    rw [r0, Option.bind_some, s0, Option.bind_some, t0, Option.bind_some]
    by_cases z : (bsS ρ f w m a k).1 = 0
    · rw [if_pos (nI_le (by omega) (by omega))]
      rw [if_pos (Or.inl z)] at eb
      exact ⟨_, rfl, by omega, by rw [eb], by rw [eb], nI_add _ _, FT⟩
    · rw [if_neg (nI_ge (by omega) (by omega))]
      by_cases z2 : (bsS ρ f w m a k).2 < v
      · rw [if_pos z2]
        rw [if_pos (Or.inr z2)] at eb
        exact ⟨_, rfl, by omega, by rw [eb], by rw [eb], nI_add _ _, FT⟩
      · rw [if_neg z2]
        rw [if_neg (fun y => y.elim z z2)] at eb
        exact ⟨_, rfl, by omega, by rw [eb], by rw [eb], nI_add _ _, FT⟩
theorem ANm_bestStay (hIn : InQ σ μ) (p1 p2 p3 p4 : Int32) : ANm (fX5_bestStay p1 p2 p3 p4 σ) (fX6_bestStay p1 p2 p3 p4 μ) [(2, 1)] InQ := by
  obtain ⟨ρ, h1, C, h3, hN, h5, h6, h7⟩ := id hIn
  rcases ix_em p1 30 with ⟨f, hf, rfl⟩ | q
  · by_cases hH : VH p2 p3 p4
    · obtain ⟨w, m, a, w1, w2, w3, rfl, rfl, rfl⟩ := id hH
      obtain ⟨⟨r1, σ2⟩, c0, c1, c2⟩ := bestStayC_h h1 h3 (f := f) (w := w) (m := m) (a := a) (by omega) w1 w2 w3
      try dsimp only at c1 c2
      obtain ⟨⟨v, μ2⟩, d0, d1, d2⟩ := bestStayR_s C h3 (f := f) (w := w) (m := m) (a := a) (by omega) w1 w2 w3
      try dsimp only at d1 d2
      refine Or.inl ⟨nI (bsS ρ f w m a (30 - f)).1, σ2, by rw [c0, c1], ?_⟩
      unfold fX6_bestStay
      simp only [l_0, l_1]
      rw [isNight_Y hf, Option.bind_some, if_neg (by decide), isGroup_Y hH, Option.bind_some, if_pos (by decide), d0, Option.bind_some]
      refine ⟨_, rfl, d1, ?_, In_qt (In_st hIn c2 rfl) (tr_QT C d2)⟩
      show rI μ2 60 0 0 = _
      rw [d2.1 60 0 0 (by unfold KT; omega), rI_wI_self]
    · refine ANm_no hIn 2 1 (by decide) ?_ ?_
      · unfold fX5_bestStay
        rw [chkG_N (fun z => hH z.2), Option.bind_some, Sum.elim_inr]
      · unfold fX6_bestStay jX6_bestStay_22
        simp only [l_0, l_1]
        rw [isNight_Y hf, Option.bind_some, if_neg (by decide), isGroup_N hH, Option.bind_some, if_neg (by decide)]
        exact ref_no 1
  · refine ANm_no hIn 2 1 (by decide) ?_ ?_
    · unfold fX5_bestStay
      rw [chkG_N (fun z => q (by obtain ⟨f, n, f1, f2, e1, e2⟩ := z.1; exact ⟨f, by omega, e1⟩)), Option.bind_some, Sum.elim_inr]
    · unfold fX6_bestStay jX6_bestStay_22
      simp only [l_0, l_1]
      rw [isNight_N q, Option.bind_some, if_pos rfl]
      exact ref_no 1
end
