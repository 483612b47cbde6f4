/-! layer 2: a text's statements: settings -/
def shJ (μ : Mem) : Mem := (μ.1, (fun k j r => if k = 11 then μ.2.1 13 j r else if k = 12 then μ.2.1 14 j r else μ.2.1 k j r), μ.2.2)
theorem shJ_11 (μ : Mem) (r : Nat) : rJ (shJ μ) 11 0 r = rJ μ 13 0 r := rfl
theorem shJ_12 (μ : Mem) (r : Nat) : rJ (shJ μ) 12 0 r = rJ μ 14 0 r := rfl
theorem placeRB_eq (m : Int64) (n : Int32) (μ : Mem) : fX6_placeOf_RB m n μ = fX6_placeOf_BN m n (shJ μ) := by
  have e : stX6_placeOf_RB_3 n μ m = stX6_placeOf_BN_3 n (shJ μ) m := by
    funext a
    unfold stX6_placeOf_RB_3 stX6_placeOf_BN_3 jX6_placeOf_RB_30 jX6_placeOf_BN_30
    rfl
  unfold fX6_placeOf_RB fX6_placeOf_BN
  rw [e]
theorem placeRR_eq (m : Int64) (n : Int32) (μ : Mem) : fX6_placeOf_RR m n μ = fX6_placeOf_RN m n (shJ μ) := by
  have e : stX6_placeOf_RR_3 n μ m = stX6_placeOf_RN_3 n (shJ μ) m := by
    funext a
    unfold stX6_placeOf_RR_3 stX6_placeOf_RN_3 jX6_placeOf_RR_30 jX6_placeOf_RN_30
    rfl
  unfold fX6_placeOf_RR fX6_placeOf_RN
  rw [e]
/-- the names read -/
def Nm2 (σ μ : Mem) (j : Nat) (ρ : RwQ) : Prop := (∀ r, r < ρ 4 → NMr (rJ σ 1 j r) (rJ μ 13 0 r)) ∧ (∀ b, b < ρ 37 → NMr (rJ σ 2 j b) (rJ μ 14 0 b))
def LD (σ μ : Mem) (j N : Nat) (B : Nat → Int32) (s : Nat) (ρ : RwQ) : Prop := RdC σ N B s ∧ RdR μ N B s ∧ HR σ j ρ ∧ Cur μ 1 ρ ∧ I3 ρ ∧ Nm2 σ μ j ρ
def FK (j : Nat) (σ σ2 : Mem) : Prop := FrG (fun k x _ => (8 ≤ k ∧ k ≤ 11) ∨ ((20 ≤ k ∧ k ≤ 49) ∧ x = j)) (fun k x _ => k = 0 ∨ (k = 1 ∨ k = 2) ∧ x = j) σ σ2
def FM (μ μ2 : Mem) : Prop := FrG (fun k _ r => (71 ≤ k ∧ k ≤ 75) ∨ (k = 61 ∧ 208 ≤ r ∧ r < 416)) (fun k _ _ => k = 10 ∨ k = 13 ∨ k = 14) μ μ2
/-- what a statement comes to -/
def SO (c : Option (Int32 × Mem)) (r : Option Mem) (σ μ : Mem) (j N : Nat) (B : Nat → Int32) (s : Nat) : Prop := ∃ σ2 μ2, r = some μ2 ∧ FK j σ σ2 ∧ FM μ μ2 ∧ ((∃ s2 ρ2, c = some (nI 1, σ2) ∧ s ≤ s2 ∧ tkK N B s2 = 3 ∧ LD σ2 μ2 j N B s2 ρ2) ∨ (∃ w, c = some (nI 0, σ2) ∧ rI σ2 9 0 0 = nI w ∧ Bad μ2 w))
section
variable {σ σ2 μ μ2 : Mem} {j N s w : Nat} {B : Nat → Int32} {ρ : RwQ}
theorem FK_rfl (σ : Mem) : FK j σ σ := FrG_rfl σ
theorem FM_rfl (σ : Mem) : FM σ σ := FrG_rfl σ
theorem FK_tr {a b c : Mem} (h1 : FK j a b) (h2 : FK j b c) : FK j a c := FrG_tr h1 h2
theorem FM_tr {a b c : Mem} (h1 : FM a b) (h2 : FM b c) : FM a c := FrG_tr h1 h2
theorem FA_K (F : FA σ σ2) : FK j σ σ2 := FrG_mono F (fun k x r z => Or.inl z) (fun k x r z => Or.inl z)
theorem FY_M (F : FY μ μ2) : FM μ μ2 := FrG_mono F (fun k x r z => Or.inl z) (fun k x r z => Or.inl z)
theorem HR_g {K KJ : Nat → Nat → Nat → Prop} (h : HR σ j ρ) (F : FrG K KJ σ σ2) (hk : ∀ k r, 20 ≤ k → k ≤ 49 → ¬ K k j r) : HR σ2 j ρ := by
  have hh := HR_fr (K := K) (σ2 := (σ2.1, σ.2)) h (FrG_I F) hk
  exact hh
theorem Cur_g {K KJ : Nat → Nat → Nat → Prop} {t : Nat} (h : Cur μ t ρ) (F : FrG K KJ μ μ2) (h1 : ¬ K 62 0 0) (h2 : ∀ r, 208 * t ≤ r → r < 208 * t + 208 → ¬ K 61 0 r) : Cur μ2 t ρ := by
  have hh := Cur_fr (K := K) (μ2 := (μ2.1, μ.2)) h (FrG_I F) h1 h2
  exact hh
theorem HR_FA (h : HR σ j ρ) (F : FA σ σ2) : HR σ2 j ρ := HR_g h F (fun k r _ _ z => by omega)
theorem Cur_FY (h : Cur μ 1 ρ) (F : FY μ μ2) : Cur μ2 1 ρ := Cur_g h F (by omega) (fun r _ _ z => by omega)
theorem Nm2_g {K KJ Km KJm : Nat → Nat → Nat → Prop} (h : Nm2 σ μ j ρ) (F : FrG K KJ σ σ2) (G : FrG Km KJm μ μ2) (hk : ∀ r, r < ρ 4 → ¬ KJ 1 j r ∧ ¬ KJm 13 0 r) (hb : ∀ b, b < ρ 37 → ¬ KJ 2 j b ∧ ¬ KJm 14 0 b) : Nm2 σ2 μ2 j ρ :=
  ⟨fun r hr => by rw [F.2.1 _ _ _ (hk r hr).1, G.2.1 _ _ _ (hk r hr).2]; exact h.1 r hr, fun b hb2 => by rw [F.2.1 _ _ _ (hb b hb2).1, G.2.1 _ _ _ (hb b hb2).2]; exact h.2 b hb2⟩
theorem Nm2_F (h : Nm2 σ μ j ρ) (F : FA σ σ2) (G : FY μ μ2) : Nm2 σ2 μ2 j ρ := Nm2_g h F G (fun r _ => ⟨by omega, by omega⟩) (fun b _ => ⟨by omega, by omega⟩)
theorem Nm2_eq {ρ2 : RwQ} (h : Nm2 σ μ j ρ) (h4 : ρ2 4 = ρ 4) (h37 : ρ2 37 = ρ 37) : Nm2 σ μ j ρ2 := ⟨fun r hr => h.1 r (by omega), fun b hb => h.2 b (by omega)⟩
theorem wd_nm (R : RdC σ N B s) (R2 : RdR μ N B s) (h : tkK N B s = 1) : NMr (rJ σ 0 0 0) (rJ μ 10 0 0) := by
  obtain ⟨x1, x2, x3, x4, x5, x6⟩ := tk_word h
  obtain ⟨o1, o2⟩ := lsN_ok (N := N) (s := s) (B := B) (lts N B s) (Nat.le_refl _) R.2.1
  refine ⟨lsN B s (lts N B s), ?_, by omega, o1, R.2.2.2.2.2.1 h, R2.2.2.1.2.2.2.1 h⟩
  intro e
  rw [e] at o2
  have : (0 : Nat) = lts N B s := o2
  omega
theorem st_9 (R : RdC σ N B s) : rI σ 9 0 0 = nI s := R.2.2.1
/-- a value is wrong: where the reference says so -/
theorem FY_75 (v : Int32) : FY μ (wI μ 75 0 0 v) := FrG_wI (by omega)
/-- settings 0 and 1 -/
theorem setC {i hi : Nat} (L : LD σ μ j N B s ρ) (hi2 : i = 0 ∧ hi = 50 ∨ i = 1 ∧ hi = 300) : SO ((fX2_readNumber (nI 0) (nI hi) σ).bind fun q1 => (if ¬ q1.1 = nI 0 then ((fX2_readEnd (wI q1.2 (24 + i) j 0 (rI q1.2 11 0 0))).bind fun q2 => (gd (q2.1 = nI 0 ∨ q2.1 = nI 1) (some (q2.1, q2.2)))) else (some (nI 0, q1.2)))) (fX6_readSetting (nI i) (nI hi) μ) σ μ j N B s := by
  obtain ⟨R, R2, hR, C, h3, hN⟩ := L
  obtain ⟨σ1, a1, a2, a3, a4⟩ := num_h R 0 hi
  obtain ⟨μ1, b1', b2, b3⟩ := go_s R2
  obtain ⟨s1, hs1⟩ : ∃ t, t = nxT N B s := ⟨_, rfl⟩
  have l1 := nxT_le (B := B) R.2.1
  rw [← hs1] at a1 a2 a4 b2 l1
  unfold fX6_readSetting
  simp only [l_0]
  rw [a1, b1', Option.bind_some, Option.bind_some]
  try dsimp only
  by_cases k : okN N B s1 0 hi = true
  · obtain ⟨v1, -, v2⟩ := a4 (by omega) (by omega) k
    obtain ⟨⟨v, μ2⟩, c1, c2, c3, c4⟩ := val_Y b2 (by omega) (by omega) k
    try dsimp only at c2 c3 c4
    subst c2
    rw [if_pos (by rw [k]; decide), c1, Option.bind_some]
    try dsimp only
    rw [v1]
    obtain ⟨x1, x2⟩ := set_mk (i := i) (v := vlT N B s1) (HR_FA hR a3) h3 (by omega) ⟨fun z => by omega, fun z => by omega, fun z => by omega, fun z => by omega⟩
    have F2 : FK j σ1 (wI σ1 (24 + i) j 0 (nI (vlT N B s1))) := FrG_wI (Or.inr ⟨by omega, rfl⟩)
    have R3 : RdC (wI σ1 (24 + i) j 0 (nI (vlT N B s1))) N B s1 := RdC_fr (K := fun k _ _ => k = 24 + i) (KJ := fun _ _ _ => False) a2 (FrG_wI rfl) (fun k x r z => by omega) (fun k x r z => z.elim)
    obtain ⟨σ3, d1, d2, d3⟩ := end_h R3
    rw [d1, Option.bind_some]
    try dsimp only
    rw [gd_b1]
    have l2 := nxT_le (B := B) R3.2.1
    by_cases e : tkK N B (nxT N B s1) = 3
    · rw [ends_Y c3 e, Option.bind_some, well_Y c3, Option.bind_some, if_neg (by decide), decide_eq_true e]
      have C2 := Cur_FY (Cur_FY C b3) c4
      rw [set_s C2 (by omega), Option.bind_some]
      have GM : FrG (fun k _ r => k = 61 ∧ 208 ≤ r ∧ r < 416) (fun _ _ _ => False) μ2 (wI μ2 61 0 (208 * 1 + i) (nI (vlT N B s1))) := FrG_wI (by omega)
      have G2 : FM μ2 (wI μ2 61 0 (208 * 1 + i) (nI (vlT N B s1))) := FrG_wI (by omega)
      refine ⟨σ3, _, rfl, FK_tr (FK_tr (FA_K a3) F2) (FA_K d3), FM_tr (FM_tr (FY_M b3) (FY_M c4)) G2, Or.inl ⟨_, upQ ρ i (vlT N B s1), rfl, by omega, e, d2, RdR_fr c3 GM (fun k x r z => by omega) (fun k x r z => z.elim), HR_FA x1 d3, set_C C2 (by omega) _, x2, ?_⟩⟩
      have hN1 : Nm2 σ1 μ2 j ρ := Nm2_F (Nm2_F hN a3 b3) (FA_rfl _) c4
      have hN2 : Nm2 (wI σ1 (24 + i) j 0 (nI (vlT N B s1))) (wI μ2 61 0 (208 * 1 + i) (nI (vlT N B s1))) j ρ := hN1
      exact Nm2_eq (Nm2_F hN2 d3 (FY_rfl _)) (up_n (by omega)) (up_n (by omega))
    · rw [ends_N c3 e, Option.bind_some, well_N (bad_s c3).1, Option.bind_some, if_pos rfl, decide_eq_false e]
      exact ⟨σ3, _, rfl, FK_tr (FK_tr (FA_K a3) F2) (FA_K d3), FM_tr (FM_tr (FY_M b3) (FY_M c4)) (FY_M (FY_75 _)), Or.inr ⟨_, rfl, st_9 d2, (bad_s c3).1⟩⟩
  · have k2 := Bool.eq_false_iff.mpr k
    rw [if_neg (by rw [k2]; decide), val_N b2 k2, Option.bind_some]
    try dsimp only
    rw [ends_B (bad_s b2).1, Option.bind_some, well_N (bad_s b2).1, Option.bind_some, if_pos rfl]
    exact ⟨σ1, _, rfl, FA_K a3, FM_tr (FY_M b3) (FY_M (FY_75 _)), Or.inr ⟨_, rfl, st_9 a2, (bad_s b2).1⟩⟩
theorem over_so (L : LD σ μ j N B s ρ) : SO (fX2_readOver j σ) (fX6_readSetting (0 : Int32) (50 : Int32) μ) σ μ j N B s := by
  unfold fX2_readOver
  simp only [l_0, l_1, l_50]
  exact setC (i := 0) (hi := 50) L (Or.inl ⟨rfl, rfl⟩)
theorem walk_so (L : LD σ μ j N B s ρ) : SO (fX2_readWalk j σ) (fX6_readSetting (1 : Int32) (300 : Int32) μ) σ μ j N B s := by
  unfold fX2_readWalk
  simp only [l_0, l_1, l_300]
  exact setC (i := 1) (hi := 300) L (Or.inr ⟨rfl, rfl⟩)
theorem offer_so (L : LD σ μ j N B s ρ) : SO (fX2_readOffer j σ) (fX6_readOffer μ) σ μ j N B s := by
  obtain ⟨R, R2, hR, C, h3, hN⟩ := L
  obtain ⟨σ1, a1, a2, a3, a4⟩ := num_h R 2 30
  obtain ⟨μ1, b1', b2, b3⟩ := go_s R2
  obtain ⟨s1, hs1⟩ : ∃ t, t = nxT N B s := ⟨_, rfl⟩
  have l1 := nxT_le (B := B) R.2.1
  rw [← hs1] at a1 a2 a4 b2 l1
  unfold fX2_readOffer fX6_readOffer
  simp only [l_0, l_1, l_2, l_3, l_30, l_50]
  rw [a1, b1', Option.bind_some, Option.bind_some]
  try dsimp only
  by_cases k : okN N B s1 2 30 = true
  · obtain ⟨v1, v2, v3⟩ := a4 (by omega) (by omega) k
    obtain ⟨⟨v, μ2⟩, c1, c2, c3, c4⟩ := val_Y b2 (by omega) (by omega) k
    try dsimp only at c2 c3 c4
    subst c2
    rw [if_pos (by rw [k]; decide), c1, Option.bind_some]
    try dsimp only
    rw [v1]
    obtain ⟨u1, hu1⟩ : ∃ t, t = vlT N B s1 := ⟨_, rfl⟩
    rw [← hu1] at v2 v3 ⊢
    obtain ⟨x1, x2⟩ := set_mk (i := 2) (v := u1) (HR_FA hR a3) h3 (by omega) ⟨fun z => by omega, fun z => by omega, fun z => by omega, fun z => by omega⟩
    have F2 : FK j σ1 (wI σ1 26 j 0 (nI u1)) := FrG_wI (Or.inr ⟨by omega, rfl⟩)
    have R3 : RdC (wI σ1 26 j 0 (nI u1)) N B s1 := RdC_fr (K := fun k _ _ => k = 26) (KJ := fun _ _ _ => False) a2 (FrG_wI rfl) (fun k x r z => by omega) (fun k x r z => z.elim)
    obtain ⟨σ3, d1, d2, d3, d4⟩ := num_h R3 0 50
    have l2 := nxT_le (B := B) R3.2.1
    obtain ⟨s2, hs2⟩ : ∃ t, t = nxT N B s1 := ⟨_, rfl⟩
    rw [← hs2] at d1 d2 d4 l2 c3
    rw [d1, Option.bind_some]
    try dsimp only
    by_cases k3 : okN N B s2 0 50 = true
    · obtain ⟨w1, w2, w3⟩ := d4 (by omega) (by omega) k3
      obtain ⟨⟨v, μ3⟩, e1, e2, e3, e4⟩ := val_Y c3 (by omega) (by omega) k3
      try dsimp only at e2 e3 e4
      subst e2
      rw [if_pos (by rw [k3]; decide), e1, Option.bind_some]
      try dsimp only
      rw [w1]
      obtain ⟨u2, hu2⟩ : ∃ t, t = vlT N B s2 := ⟨_, rfl⟩
      rw [← hu2] at w2 w3 ⊢
      obtain ⟨y1, y2⟩ := set_mk (i := 3) (v := u2) (HR_FA x1 d3) x2 (by omega) ⟨fun z => by omega, fun z => by omega, fun z => by omega, fun z => by omega⟩
      have F4 : FK j σ3 (wI σ3 27 j 0 (nI u2)) := FrG_wI (Or.inr ⟨by omega, rfl⟩)
      have R5 : RdC (wI σ3 27 j 0 (nI u2)) N B s2 := RdC_fr (K := fun k _ _ => k = 27) (KJ := fun _ _ _ => False) d2 (FrG_wI rfl) (fun k x r z => by omega) (fun k x r z => z.elim)
      obtain ⟨σ5, f1, f2, f3⟩ := end_h R5
      rw [f1, Option.bind_some]
      try dsimp only
      rw [gd_b1]
      have l3 := nxT_le (B := B) R5.2.1
      have FF : FK j σ σ5 := FK_tr (FK_tr (FK_tr (FK_tr (FA_K a3) F2) (FA_K d3)) F4) (FA_K f3)
      have GG : FM μ μ3 := FM_tr (FM_tr (FY_M b3) (FY_M c4)) (FY_M e4)
      by_cases e : tkK N B (nxT N B s2) = 3
      · rw [ends_Y e3 e, Option.bind_some, well_Y e3, Option.bind_some, if_pos (by decide), decide_eq_true e]
        have C2 := Cur_FY (Cur_FY (Cur_FY C b3) c4) e4
        have C3 := set_C C2 (k := 2) (by omega) u1
        rw [set_s C2 (by omega), Option.bind_some, set_s C3 (by omega), Option.bind_some]
        have GM : FrG (fun k _ r => k = 61 ∧ 208 ≤ r ∧ r < 416) (fun _ _ _ => False) μ3 (wI (wI μ3 61 0 (208 * 1 + 2) (nI u1)) 61 0 (208 * 1 + 3) (nI u2)) := FrG_tr (FrG_wI (by omega)) (FrG_wI (by omega))
        have G2 : FM μ3 (wI (wI μ3 61 0 (208 * 1 + 2) (nI u1)) 61 0 (208 * 1 + 3) (nI u2)) := FrG_tr (FrG_wI (by omega)) (FrG_wI (by omega))
        refine ⟨σ5, _, rfl, FF, FM_tr GG G2, Or.inl ⟨_, upQ (upQ ρ 2 u1) 3 u2, rfl, by omega, e, f2, RdR_fr e3 GM (fun k x r z => by omega) (fun k x r z => z.elim), HR_FA y1 f3, set_C C3 (by omega) _, y2, ?_⟩⟩
        have hN1 : Nm2 σ1 μ2 j ρ := Nm2_F (Nm2_F hN a3 b3) (FA_rfl _) c4
        have hN2 : Nm2 (wI σ1 26 j 0 (nI u1)) μ2 j ρ := hN1
        have hN3 : Nm2 σ3 μ3 j ρ := Nm2_F hN2 d3 e4
        have hN4 : Nm2 (wI σ3 27 j 0 (nI u2)) (wI (wI μ3 61 0 (208 * 1 + 2) (nI u1)) 61 0 (208 * 1 + 3) (nI u2)) j ρ := hN3
        exact Nm2_eq (Nm2_F hN4 f3 (FY_rfl _)) (by rw [up_n (by omega), up_n (by omega)]) (by rw [up_n (by omega), up_n (by omega)])
      · rw [ends_N e3 e, Option.bind_some, well_N (bad_s e3).1, Option.bind_some, if_neg (by decide), decide_eq_false e]
        exact ⟨σ5, _, rfl, FF, FM_tr GG (FY_M (FY_75 _)), Or.inr ⟨_, rfl, st_9 f2, (bad_s e3).1⟩⟩
    · have k4 := Bool.eq_false_iff.mpr k3
      rw [if_neg (by rw [k4]; decide), val_N c3 k4, Option.bind_some]
      try dsimp only
      rw [ends_B (bad_s c3).1, Option.bind_some, well_N (bad_s c3).1, Option.bind_some, if_neg (by decide)]
      exact ⟨σ3, _, rfl, FK_tr (FK_tr (FA_K a3) F2) (FA_K d3), FM_tr (FM_tr (FY_M b3) (FY_M c4)) (FY_M (FY_75 _)), Or.inr ⟨_, rfl, st_9 d2, (bad_s c3).1⟩⟩
  · have k2 := Bool.eq_false_iff.mpr k
    rw [if_neg (by rw [k2]; decide), val_N b2 k2, Option.bind_some]
    try dsimp only
    rw [val_B (bad_s b2).1, Option.bind_some]
    try dsimp only
    rw [ends_B (bad_s b2).1, Option.bind_some, well_N (bad_s b2).1, Option.bind_some, if_neg (by decide)]
    exact ⟨σ1, _, rfl, FA_K a3, FM_tr (FY_M b3) (FY_M (FY_75 _)), Or.inr ⟨_, rfl, st_9 a2, (bad_s b2).1⟩⟩
end
