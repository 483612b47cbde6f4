/-! p47, layer 2: the statements of the law's text, read -/
def nmR (r : Nat) : Int64 := lN (97 + r)
def nmB (b : Nat) : Int64 := lN (103 * 256 + (97 + b))
def LDn (σ : Mem) (j : Nat) (ρ : RwQ) : Prop := (∀ r, r < ρ 4 → rJ σ 1 j r = nmR r) ∧ (∀ b, b < ρ 37 → rJ σ 2 j b = nmB b)
def LD1 (σ : Mem) (j : Nat) (ls r : List Nat) (ρ : RwQ) : Prop := Rr σ ls r ∧ HR σ j ρ ∧ I3 ρ ∧ LDn σ j ρ
def SA (c : Option (Int32 × Mem)) (σ : Mem) (j : Nat) (ls q : List Nat) (ρ : RwQ) : Prop := ∃ σ2, c = some (nI 1, σ2) ∧ LD1 σ2 j ls (59 :: q) ρ ∧ FK j σ σ2
theorem nmR_inj {a b : Nat} (ha : a < 100) (hb : b < 100) (h : nmR a = nmR b) : a = b := by
  have := lN_inj (by omega) (by omega) h
  omega
theorem nmB_inj {a b : Nat} (ha : a < 100) (hb : b < 100) (h : nmB a = nmB b) : a = b := by
  have := lN_inj (by omega) (by omega) h
  omega
section
variable {σ σ2 : Mem} {j : Nat} {ls w q : List Nat} {c v : Nat} {ρ : RwQ}
theorem LDn_g {K KJ : Nat → Nat → Nat → Prop} (h : LDn σ j ρ) (F : FrG K KJ σ σ2) (hk : ∀ r, ¬ KJ 1 j r ∧ ¬ KJ 2 j r) : LDn σ2 j ρ := ⟨fun r hr => by rw [F.2.1 1 j r (hk r).1]; exact h.1 r hr, fun b hb => by rw [F.2.1 2 j b (hk b).2]; exact h.2 b hb⟩
theorem LDn_eq {ρ2 : RwQ} (h : LDn σ j ρ) (h4 : ρ2 4 = ρ 4) (h37 : ρ2 37 = ρ 37) : LDn σ j ρ2 := ⟨fun r hr => h.1 r (by omega), fun b hb => h.2 b (by omega)⟩
theorem LDn_FA (h : LDn σ j ρ) (F : FA σ σ2) : LDn σ2 j ρ := LDn_g h F (fun r => ⟨by omega, by omega⟩)
theorem nb_dec (hv : v < 1000) (r : List Nat) : nbH (dec v ++ r) := by
  intro c q2 e
  have d := dec_len v
  cases h : dec v with
  | nil => rw [h] at d; simp at d
  | cons x t =>
    rw [h, List.cons_append] at e
    injection e with e1 e2
    have := dec_f v hv x (by rw [h]; exact List.mem_cons_self)
    omega
theorem nb_w (hw : wdO w) (r : List Nat) : nbH (w ++ r) := by
  intro c q2 e
  obtain ⟨w1, w2, w3⟩ := hw
  cases h : w with
  | nil => rw [h] at w1; simp at w1
  | cons x t =>
    rw [h, List.cons_append] at e
    injection e with e1 e2
    have := w3 x (by rw [h]; exact List.mem_cons_self)
    omega
theorem set_A {i : Nat} (ha : asc ls) (L : LD1 σ j ls (dec v ++ 59 :: q) ρ) (h11 : rI σ 11 0 0 = nI v) (hv : v < 1000) (hi : i < 4) (hb : (i = 0 → v ≤ 50) ∧ (i = 1 → v ≤ 300) ∧ (i = 2 → 2 ≤ v ∧ v ≤ 30) ∧ (i = 3 → v ≤ 50)) : ∃ σ2, fX2_readEnd (wI σ (24 + i) j 0 (rI σ 11 0 0)) = some (nI 1, σ2) ∧ LD1 σ2 j ls (59 :: q) (upQ ρ i v) ∧ FK j σ σ2 := by
  obtain ⟨R, hR, h3, hN⟩ := L
  rw [h11]
  obtain ⟨x1, x2⟩ := set_mk (i := i) (v := v) hR h3 hi hb
  have G : FrG (fun k x _ => k = 24 + i ∧ x = j) (fun _ _ _ => False) σ (wI σ (24 + i) j 0 (nI v)) := FrG_wI ⟨rfl, rfl⟩
  have R2 : Rr (wI σ (24 + i) j 0 (nI v)) ls (dec v ++ 59 :: q) := Rr_fr R G (fun k x r z => by omega) (fun _ _ _ z => z.elim)
  obtain ⟨σ2, a1, a2, a3⟩ := end_A ha R2 (NX_n2 ha hv)
  refine ⟨σ2, a1, ⟨a2, HR_FA x1 a3, x2, LDn_eq (LDn_FA (LDn_g hN G (fun r => ⟨fun z => z, fun z => z⟩)) a3) (up_n (by omega)) (up_n (by omega))⟩, FK_tr (FrG_mono G (fun k x r z => by omega) (fun _ _ _ z => z.elim)) (FA_K a3)⟩
theorem over_A (ha : asc ls) (hw : wdO w) (L : LD1 σ j ls (w ++ 32 :: (dec v ++ 59 :: q)) ρ) (hv : v ≤ 50) : SA (fX2_readOver j σ) σ j ls q (upQ ρ 0 v) := by
  obtain ⟨R, hR, h3, hN⟩ := L
  unfold fX2_readOver
  obtain ⟨σ1, a1, a2, a3, a4⟩ := num_A ha R (NX_w ha hw (nb_dec (by omega) _)) (by omega) (Nat.zero_le v) hv (by omega)
  obtain ⟨σ2, b1', b2, b3⟩ := set_A (i := 0) ha ⟨a2, HR_FA hR a3, h3, LDn_FA hN a3⟩ a4 (by omega) (by omega) ⟨fun _ => hv, fun z => by omega, fun z => by omega, fun z => by omega⟩
  rw [show fX2_readNumber (0 : Int32) (50 : Int32) σ = some (nI 1, σ1) from a1, Option.bind_some]
  try dsimp only
  rw [if_pos (by decide), show fX2_readEnd (wI σ1 24 j 0 (rI σ1 11 0 0)) = some (nI 1, σ2) from b1', Option.bind_some]
  exact ⟨σ2, rfl, b2, FK_tr (FA_K a3) b3⟩
theorem walk_A (ha : asc ls) (hw : wdO w) (L : LD1 σ j ls (w ++ 32 :: (dec v ++ 59 :: q)) ρ) (hv : v ≤ 300) : SA (fX2_readWalk j σ) σ j ls q (upQ ρ 1 v) := by
  obtain ⟨R, hR, h3, hN⟩ := L
  unfold fX2_readWalk
  obtain ⟨σ1, a1, a2, a3, a4⟩ := num_A ha R (NX_w ha hw (nb_dec (by omega) _)) (by omega) (Nat.zero_le v) hv (by omega)
  obtain ⟨σ2, b1', b2, b3⟩ := set_A (i := 1) ha ⟨a2, HR_FA hR a3, h3, LDn_FA hN a3⟩ a4 (by omega) (by omega) ⟨fun z => by omega, fun _ => hv, fun z => by omega, fun z => by omega⟩
  rw [show fX2_readNumber (0 : Int32) (300 : Int32) σ = some (nI 1, σ1) from a1, Option.bind_some]
  try dsimp only
  rw [if_pos (by decide), show fX2_readEnd (wI σ1 25 j 0 (rI σ1 11 0 0)) = some (nI 1, σ2) from b1', Option.bind_some]
  exact ⟨σ2, rfl, b2, FK_tr (FA_K a3) b3⟩
theorem offer_A {u : Nat} (ha : asc ls) (hw : wdO w) (L : LD1 σ j ls (w ++ 32 :: (dec u ++ 32 :: (dec v ++ 59 :: q))) ρ) (hu : 2 ≤ u ∧ u ≤ 30) (hv : v ≤ 50) : SA (fX2_readOffer j σ) σ j ls q (upQ (upQ ρ 2 u) 3 v) := by
  obtain ⟨R, hR, h3, hN⟩ := L
  unfold fX2_readOffer
  obtain ⟨σ1, a1, a2, a3, a4⟩ := num_A ha R (NX_w ha hw (nb_dec (by omega) _)) (by omega) hu.1 hu.2 (by omega)
  rw [show fX2_readNumber (2 : Int32) (30 : Int32) σ = some (nI 1, σ1) from a1, Option.bind_some]
  try dsimp only
  rw [if_pos (by decide), a4]
  obtain ⟨x1, x2⟩ := set_mk (i := 2) (v := u) (HR_FA hR a3) h3 (by omega) ⟨fun z => by omega, fun z => by omega, fun _ => hu, fun z => by omega⟩
  have G : FrG (fun k x _ => k = 26 ∧ x = j) (fun _ _ _ => False) σ1 (wI σ1 26 j 0 (nI u)) := FrG_wI ⟨rfl, rfl⟩
  have R2 : Rr (wI σ1 26 j 0 (nI u)) ls (dec u ++ 32 :: (dec v ++ 59 :: q)) := Rr_fr a2 G (fun k x r z => by omega) (fun _ _ _ z => z.elim)
  have N2 : LDn (wI σ1 26 j 0 (nI u)) j (upQ ρ 2 u) := LDn_eq (LDn_g (LDn_FA hN a3) G (fun r => ⟨fun z => z, fun z => z⟩)) (up_n (by omega)) (up_n (by omega))
  obtain ⟨σ3, c1, c2, c3, c4⟩ := num_A ha R2 (NX_n ha (by omega) (nb_dec (by omega) _)) (by omega) (Nat.zero_le v) hv (by omega)
  obtain ⟨σ4, d1, d2, d3⟩ := set_A (i := 3) ha ⟨c2, HR_FA x1 c3, x2, LDn_FA N2 c3⟩ c4 (by omega) (by omega) ⟨fun z => by omega, fun z => by omega, fun z => by omega, fun _ => hv⟩
  rw [show fX2_readNumber (0 : Int32) (50 : Int32) (wI σ1 26 j 0 (nI u)) = some (nI 1, σ3) from c1, Option.bind_some]
  try dsimp only
  rw [if_pos (by decide), show fX2_readEnd (wI σ3 27 j 0 (rI σ3 11 0 0)) = some (nI 1, σ4) from d1, Option.bind_some]
  refine ⟨σ4, rfl, d2, FK_tr (FK_tr (FK_tr (FA_K a3) (FrG_mono G (fun k x r z => by omega) (fun _ _ _ z => z.elim))) (FA_K c3)) d3⟩
theorem roomNamed_A {n : Nat} {m : Int64} (h20 : rI σ 20 j 0 = nI n) (hn : n ≤ 8) (h : ∀ b, b < n → rJ σ 1 j b ≠ m) : fX1_roomNamed j m σ = some (-1 : Int32) := by
  have e : loop (stX1_roomNamed_2 σ j m) 5000 (nI 0) = some (.inl ()) := by
    refine loop_st n (fun i => nI i) (by omega) rfl ?_ ?_
    · intro i hi
      unfold stX1_roomNamed_2
      simp only [l_1]
      rw [h20, if_neg (nI_ge (by omega) (by omega)), gd_inb (by omega) (by omega), nI_clamp (by omega), nI_add, if_pos ?_]
      intro z
      exact h i hi ((lg_cmp_eq _ _).mp z)
    · unfold stX1_roomNamed_2
      rw [h20, if_pos (nI_le (by omega) (by omega))]
  unfold fX1_roomNamed
  simp only [l_0]
  rw [e, Option.bind_some]
  rfl
theorem bookingNamed_A {n : Nat} {m : Int64} (h22 : rI σ 22 j 0 = nI n) (hn : n ≤ 17) (hm : m ≠ 0) (h : ∀ b, b < n → rJ σ 2 j b ≠ m) : fX1_bookingNamed j m σ = some (-1 : Int32) := by
  have e : loop (stX1_bookingNamed_2 σ j m) 5000 (nI 0) = some (.inl ()) := by
    refine loop_st n (fun i => nI i) (by omega) rfl ?_ ?_
    · intro i hi
      unfold stX1_bookingNamed_2 jX1_bookingNamed_32
      simp only [l_1]
      rw [h22, if_neg (nI_ge (by omega) (by omega)), if_neg (fun z => hm ((lg_cmp_eq _ _).mp z)), gd_inb (by omega) (by omega), nI_clamp (by omega), nI_add, if_pos ?_]
      intro z
      exact h i hi ((lg_cmp_eq _ _).mp z)
    · unfold stX1_bookingNamed_2
      rw [h22, if_pos (nI_le (by omega) (by omega))]
  unfold fX1_bookingNamed
  simp only [l_0]
  rw [e, Option.bind_some]
  rfl
end
