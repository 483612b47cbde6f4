/-! layer 2: the law's cases (written by wip/gen/nl2law.py) -/
def LG (x : Option ((Mem × Mem × Mem) ⊕ Unit)) : Prop := ∃ q, x = some (.inl q) ∧ InQ q.1 q.2.1
section
variable {σ μ ω : Mem}
theorem law_m {c : Option ((Int32 ⊕ Nat) × Mem)} {r : Option (Int32 × Mem)} {E : List (Nat × Nat)} {LO : Option (Int32 × Mem × Mem)} {J : Int32 × Mem × Mem → Int32 × Mem → Option ((Mem × Mem × Mem) ⊕ Unit)} (h : ANm c r E InQ) (h1 : ∀ x σ2, c = some (.inl x, σ2) → LO = some ((0 : Int32), σ2, wJ ω 20 0 (0 : Int32).toNatClampNeg x.toInt64)) (h2 : ∀ k t σ2, (k, t) ∈ E → c = some (.inr k, σ2) → LO = some (nI t, σ2, ω) ∧ 1 ≤ t ∧ t ≤ 2) (hJ : ∀ q1 q2, J q1 q2 = some (.inl (q1.2.1, q2.2, q1.2.2))) : LG (LO.bind fun q1 => (r.bind fun q2 => ((fX6_thrown q2.2).bind fun q3 => (if q3 = q1.1 then (if ¬ q1.1 = 0 then (J q1 q2) else (if (lg_cmp (rJ q1.2.2 20 0 (0 : Int32).toNatClampNeg) q2.1.toInt64) = 0 then (J q1 q2) else (some (.inr ())))) else (some (.inr ())))))) := by
  rcases h with ⟨x, σ2, e, q, eq, hq1, hq2, hI⟩ | ⟨k, t, σ2, hE, e, q, eq, hq1, hI⟩
  · rw [h1 x σ2 e, eq, Option.bind_some, Option.bind_some]
    unfold fX6_thrown
    rw [Option.bind_some]
    try dsimp only
    rw [hq2, if_pos (show nI 0 = 0 from rfl), if_neg (fun z => z rfl), rJ_wJ_self, hq1, if_pos ((lg_cmp_eq _ _).mpr rfl), hJ]
    exact ⟨_, rfl, hI⟩
  · obtain ⟨e2, t1, t2⟩ := h2 k t σ2 hE e
    rw [e2, eq, Option.bind_some, Option.bind_some]
    unfold fX6_thrown
    rw [Option.bind_some]
    try dsimp only
    rw [hq1, if_pos rfl, if_pos (show ¬ nI t = 0 from nI_ne (b := 0) (by omega) (by omega) (by omega)), hJ]
    exact ⟨_, rfl, hI⟩
theorem law_b {c : Option ((Int32 ⊕ Nat) × Mem)} {r : Option (Int32 × Mem)} {E : List (Nat × Nat)} {LO : Option (Int32 × Mem × Mem)} {J : Int32 × Mem × Mem → Int32 × Mem → Option ((Mem × Mem × Mem) ⊕ Unit)} (h : ANm c r E InQ) (h1 : ∀ x σ2, c = some (.inl x, σ2) → LO = some ((0 : Int32), σ2, wJ ω 20 0 (0 : Int32).toNatClampNeg (if x = 0 then (0 : Int64) else (1 : Int64)))) (h2 : ∀ k t σ2, (k, t) ∈ E → c = some (.inr k, σ2) → LO = some (nI t, σ2, ω) ∧ 1 ≤ t ∧ t ≤ 2) (hJ : ∀ q1 q2, J q1 q2 = some (.inl (q1.2.1, q2.2, q1.2.2))) : LG (LO.bind fun q1 => (r.bind fun q2 => ((fX6_thrown q2.2).bind fun q3 => (if q3 = q1.1 then (if ¬ q1.1 = 0 then (J q1 q2) else (if q2.1 = 0 then (if (lg_cmp (rJ q1.2.2 20 0 (0 : Int32).toNatClampNeg) (0 : Int64)) = 0 then (J q1 q2) else (some (.inr ()))) else (if (lg_cmp (rJ q1.2.2 20 0 (0 : Int32).toNatClampNeg) (1 : Int64)) = 0 then (J q1 q2) else (some (.inr ()))))) else (some (.inr ())))))) := by
  rcases h with ⟨x, σ2, e, q, eq, hq1, hq2, hI⟩ | ⟨k, t, σ2, hE, e, q, eq, hq1, hI⟩
  · rw [h1 x σ2 e, eq, Option.bind_some, Option.bind_some]
    unfold fX6_thrown
    rw [Option.bind_some]
    try dsimp only
    rw [hq2, if_pos (show nI 0 = 0 from rfl), if_neg (fun z => z rfl), rJ_wJ_self, hq1]
    by_cases z : x = 0
    · rw [if_pos z, if_pos z, if_pos ((lg_cmp_eq _ _).mpr rfl), hJ]
      exact ⟨_, rfl, hI⟩
    · rw [if_neg z, if_neg z, if_pos ((lg_cmp_eq _ _).mpr rfl), hJ]
      exact ⟨_, rfl, hI⟩
  · obtain ⟨e2, t1, t2⟩ := h2 k t σ2 hE e
    rw [e2, eq, Option.bind_some, Option.bind_some]
    unfold fX6_thrown
    rw [Option.bind_some]
    try dsimp only
    rw [hq1, if_pos rfl, if_pos (show ¬ nI t = 0 from nI_ne (b := 0) (by omega) (by omega) (by omega)), hJ]
    exact ⟨_, rfl, hI⟩
theorem law_d {c : Option ((UInt64 ⊕ Nat) × Mem)} {r : Option (UInt64 × Mem)} {E : List (Nat × Nat)} {LO : Option (Int32 × Mem × Mem)} {J : Int32 × Mem × Mem → UInt64 × Mem → Option ((Mem × Mem × Mem) ⊕ Unit)} (h : ANd c r E InQ) (h1 : ∀ x σ2, c = some (.inl x, σ2) → LO = some ((0 : Int32), σ2, wD ω 2 0 (0 : Int32).toNatClampNeg x)) (h2 : ∀ k t σ2, (k, t) ∈ E → c = some (.inr k, σ2) → LO = some (nI t, σ2, ω) ∧ 1 ≤ t ∧ t ≤ 2) (hJ : ∀ q1 q2, J q1 q2 = some (.inl (q1.2.1, q2.2, q1.2.2))) : LG (LO.bind fun q1 => (r.bind fun q2 => ((fX6_thrown q2.2).bind fun q3 => (if q3 = q1.1 then (if ¬ q1.1 = 0 then (J q1 q2) else (if (Op.cmpValue (FP.dcmp (rD q1.2.2 2 0 (0 : Int32).toNatClampNeg) q2.1) .l) = 0 then (J q1 q2) else (if (Op.cmpValue (FP.dcmp (rD q1.2.2 2 0 (0 : Int32).toNatClampNeg) (rD q1.2.2 2 0 (0 : Int32).toNatClampNeg)) .l) = 0 then (some (.inr ())) else (if ¬ (Op.cmpValue (FP.dcmp q2.1 q2.1) .l) = 0 then (J q1 q2) else (some (.inr ())))))) else (some (.inr ())))))) := by
  rcases h with ⟨x, σ2, hx, e, q, eq, hq1, hq2, hI⟩ | ⟨k, t, σ2, hE, e, q, eq, hq1, hI⟩
  · rw [h1 x σ2 e, eq, Option.bind_some, Option.bind_some]
    unfold fX6_thrown
    rw [Option.bind_some]
    try dsimp only
    have ed : rD (wD ω 2 0 (0 : Int32).toNatClampNeg x) 2 0 (0 : Int32).toNatClampNeg = x := by rw [rD_wD, if_pos ⟨rfl, rfl, rfl⟩]
    rw [hq2, if_pos (show nI 0 = 0 from rfl), if_neg (fun z => z rfl), ed, hq1, hx, if_pos (show Op.cmpValue (some .eq) .l = 0 from rfl), hJ]
    exact ⟨_, rfl, hI⟩
  · obtain ⟨e2, t1, t2⟩ := h2 k t σ2 hE e
    rw [e2, eq, Option.bind_some, Option.bind_some]
    unfold fX6_thrown
    rw [Option.bind_some]
    try dsimp only
    rw [hq1, if_pos rfl, if_pos (show ¬ nI t = 0 from nI_ne (b := 0) (by omega) (by omega) (by omega)), hJ]
    exact ⟨_, rfl, hI⟩
theorem law_c {c : Option (Int32 ⊕ Nat)} {r : Option (Int32 × Mem)} {E : List (Nat × Nat)} {LO : Option (Int32 × Mem)} {J : Int32 × Mem → Int32 × Mem → Option ((Mem × Mem × Mem) ⊕ Unit)} (hIn : InQ σ μ) (h : ANQ c r E (QTQ μ)) (h1 : ∀ x, c = some (.inl x) → LO = some ((0 : Int32), wJ ω 20 0 (0 : Int32).toNatClampNeg x.toInt64)) (h2 : ∀ k t, (k, t) ∈ E → c = some (.inr k) → LO = some (nI t, ω) ∧ 1 ≤ t ∧ t ≤ 2) (hJ : ∀ q2 q1, J q2 q1 = some (.inl (σ, q2.2, q1.2))) : LG (LO.bind fun q1 => (r.bind fun q2 => ((fX6_thrown q2.2).bind fun q3 => (if q3 = q1.1 then (if ¬ q1.1 = 0 then (J q2 q1) else (if (lg_cmp (rJ q1.2 20 0 (0 : Int32).toNatClampNeg) q2.1.toInt64) = 0 then (J q2 q1) else (some (.inr ())))) else (some (.inr ())))))) := by
  rcases h with ⟨x, e, q, eq, hq1, hq2, hQ⟩ | ⟨k, t, hE, e, q, eq, hq1, hQ⟩
  · rw [h1 x e, eq, Option.bind_some, Option.bind_some]
    unfold fX6_thrown
    rw [Option.bind_some]
    try dsimp only
    rw [hq2, if_pos (show nI 0 = 0 from rfl), if_neg (fun z => z rfl), rJ_wJ_self, hq1, if_pos ((lg_cmp_eq _ _).mpr rfl), hJ]
    exact ⟨_, rfl, In_qt hIn hQ⟩
  · obtain ⟨e2, t1, t2⟩ := h2 k t hE e
    rw [e2, eq, Option.bind_some, Option.bind_some]
    unfold fX6_thrown
    rw [Option.bind_some]
    try dsimp only
    rw [hq1, if_pos rfl, if_pos (show ¬ nI t = 0 from nI_ne (b := 0) (by omega) (by omega) (by omega)), hJ]
    exact ⟨_, rfl, In_qt hIn hQ⟩
theorem law_0 {c : Option Int32} {r : Option (Int32 × Mem)} (hIn : InQ σ μ) (h : A0 c r (QTQ μ)) : LG (c.bind fun q1 => (r.bind fun q2 => (if q1 = q2.1 then (some (.inl (σ, q2.2, ω))) else (some (.inr ()))))) := by
  obtain ⟨x, e, q, eq, hq1, hQ⟩ := h
  rw [e, eq, Option.bind_some, Option.bind_some, hq1, if_pos rfl]
  exact ⟨_, rfl, In_qt hIn hQ⟩
end
section
variable {xs : Nat → Int32} {L : Nat} {i : Int32} {σ μ ω : Mem}
variable (hIn : InQ σ μ) (g1 : inb (i + (1 : Int32)) L) (g2 : inb (i + (2 : Int32)) L) (g3 : inb (i + (3 : Int32)) L) (g4 : inb (i + (4 : Int32)) L) (g5 : inb (i + (5 : Int32)) L) (g6 : inb (i + (6 : Int32)) L)
theorem lawC_0 (hIn : InQ σ μ) (g1 : inb (i + (1 : Int32)) L) (g2 : inb (i + (2 : Int32)) L) (g3 : inb (i + (3 : Int32)) L) (g4 : inb (i + (4 : Int32)) L) (g5 : inb (i + (5 : Int32)) L) : LG (fL_law0 xs L i σ μ ω) := by
  unfold fL_law0
  rw [gd_pos g1, gd_pos g2, gd_pos g3, gd_pos g4, gd_pos g5]
  exact law_m (ANm_append hIn _ _ _ _ _) (fun x σ2 e => by unfold fL_append_LOut; rw [e] <;> rfl) (fun k t σ2 hE e => by
    have hE2 : (k = 1 ∧ t = 1) := by simpa using hE
    rcases hE2 with ⟨rfl, rfl⟩ <;> (unfold fL_append_LOut; rw [e]; exact ⟨rfl, by omega, by omega⟩)) (fun _ _ => rfl)
theorem lawC_1 (hIn : InQ σ μ) (g1 : inb (i + (1 : Int32)) L) : LG (fL_law1 xs L i σ μ ω) := by
  unfold fL_law1 fL_truncate
  rw [gd_pos g1]
  rcases AT_truncate hIn (xs (i + (1 : Int32)).toNatClampNeg) with ⟨σ2, e, q, eq, hq, hI⟩ | ⟨e, q, eq, hq, hI⟩
  · rw [e, eq, Option.bind_some]
    try dsimp only [Sum.elim_inl]
    rw [Option.bind_some, Option.bind_some]
    unfold fX6_thrown
    rw [Option.bind_some, hq, if_pos (show nI 0 = 0 from rfl)]
    exact ⟨_, rfl, hI⟩
  · rw [e, eq, Option.bind_some]
    try dsimp only [Sum.elim_inr]
    rw [if_pos rfl, Option.bind_some, Option.bind_some]
    unfold fX6_thrown
    rw [Option.bind_some, hq, if_pos (show nI 1 = 1 from rfl)]
    exact ⟨_, rfl, hI⟩
theorem lawC_2 (hIn : InQ σ μ) : LG (fL_law2 xs L i σ μ ω) := by
  unfold fL_law2
  exact law_m (ANm_load hIn) (fun x σ2 e => by unfold fL_load_LOut; rw [e] <;> rfl) (fun k t σ2 hE e => by
    have hE2 : (k = 2 ∧ t = 1) := by simpa using hE
    rcases hE2 with ⟨rfl, rfl⟩ <;> (unfold fL_load_LOut; rw [e]; exact ⟨rfl, by omega, by omega⟩)) (fun _ _ => rfl)
theorem lawC_3 (hIn : InQ σ μ) : LG (fL_law3 xs L i σ μ ω) := by
  unfold fL_law3
  obtain ⟨x, e, q, eq, hq1, -, hI⟩ := A1_errorOffset hIn
  rw [e, eq, Option.bind_some, Option.bind_some, hq1, if_pos rfl]
  exact ⟨_, rfl, hI⟩
theorem lawC_4 (hIn : InQ σ μ) (g1 : inb (i + (1 : Int32)) L) : LG (fL_law4 xs L i σ μ ω) := by
  unfold fL_law4
  rw [gd_pos g1]
  obtain ⟨ρ, h1, C, h3, hN, h5, h6, h7⟩ := id hIn
  exact law_c hIn (AN_count h1 C h3 _) (fun x e => by unfold fL_count_LOut; rw [e] <;> rfl) (fun k t hE e => by
    have hE2 : (k = 2 ∧ t = 1) := by simpa using hE
    rcases hE2 with ⟨rfl, rfl⟩ <;> (unfold fL_count_LOut; rw [e]; exact ⟨rfl, by omega, by omega⟩)) (fun _ _ => rfl)
theorem lawC_5 (hIn : InQ σ μ) (g1 : inb (i + (1 : Int32)) L) : LG (fL_law5 xs L i σ μ ω) := by
  unfold fL_law5
  rw [gd_pos g1]
  obtain ⟨ρ, h1, C, h3, hN, h5, h6, h7⟩ := id hIn
  exact law_c hIn (AN_setting h1 C _) (fun x e => by unfold fL_setting_LOut; rw [e] <;> rfl) (fun k t hE e => by
    have hE2 : (k = 2 ∧ t = 1) := by simpa using hE
    rcases hE2 with ⟨rfl, rfl⟩ <;> (unfold fL_setting_LOut; rw [e]; exact ⟨rfl, by omega, by omega⟩)) (fun _ _ => rfl)
theorem lawC_6 (hIn : InQ σ μ) (g1 : inb (i + (1 : Int32)) L) (g2 : inb (i + (2 : Int32)) L) : LG (fL_law6 xs L i σ μ ω) := by
  unfold fL_law6
  rw [gd_pos g1, gd_pos g2]
  obtain ⟨ρ, h1, C, h3, hN, h5, h6, h7⟩ := id hIn
  exact law_c hIn (AN_room h1 C h3 _ _) (fun x e => by unfold fL_room_LOut; rw [e] <;> rfl) (fun k t hE e => by
    have hE2 : (k = 3 ∧ t = 1) ∨ (k = 2 ∧ t = 2) := by simpa using hE
    rcases hE2 with ⟨rfl, rfl⟩ | ⟨rfl, rfl⟩ <;> (unfold fL_room_LOut; rw [e]; exact ⟨rfl, by omega, by omega⟩)) (fun _ _ => rfl)
theorem lawC_7 (hIn : InQ σ μ) (g1 : inb (i + (1 : Int32)) L) (g2 : inb (i + (2 : Int32)) L) : LG (fL_law7 xs L i σ μ ω) := by
  unfold fL_law7
  rw [gd_pos g1, gd_pos g2]
  obtain ⟨ρ, h1, C, h3, hN, h5, h6, h7⟩ := id hIn
  exact law_c hIn (AN_booking h1 C h3 _ _) (fun x e => by unfold fL_booking_LOut; rw [e] <;> rfl) (fun k t hE e => by
    have hE2 : (k = 3 ∧ t = 1) ∨ (k = 2 ∧ t = 2) := by simpa using hE
    rcases hE2 with ⟨rfl, rfl⟩ | ⟨rfl, rfl⟩ <;> (unfold fL_booking_LOut; rw [e]; exact ⟨rfl, by omega, by omega⟩)) (fun _ _ => rfl)
theorem lawC_8 (hIn : InQ σ μ) (g1 : inb (i + (1 : Int32)) L) : LG (fL_law8 xs L i σ μ ω) := by
  unfold fL_law8
  rw [gd_pos g1]
  unfold jL_law8_696 jL_law8_717
  by_cases z : xs (i + (1 : Int32)).toNatClampNeg = 0
  · rw [if_pos z]
    simp only [if_pos z]
    exact law_m (ANm_find hIn _) (fun x σ2 e => by unfold fL_find_LOut; rw [e] <;> rfl) (fun k t σ2 hE e => by
    have hE2 : (k = 4 ∧ t = 1) := by simpa using hE
    rcases hE2 with ⟨rfl, rfl⟩ <;> (unfold fL_find_LOut; rw [e]; exact ⟨rfl, by omega, by omega⟩)) (fun _ _ => rfl)
  · rw [if_neg z]
    simp only [if_neg z]
    exact law_m (ANm_find hIn _) (fun x σ2 e => by unfold fL_find_LOut; rw [e] <;> rfl) (fun k t σ2 hE e => by
    have hE2 : (k = 4 ∧ t = 1) := by simpa using hE
    rcases hE2 with ⟨rfl, rfl⟩ <;> (unfold fL_find_LOut; rw [e]; exact ⟨rfl, by omega, by omega⟩)) (fun _ _ => rfl)
theorem lawC_9 (hIn : InQ σ μ) (g1 : inb (i + (1 : Int32)) L) : LG (fL_law9 xs L i σ μ ω) := by
  unfold fL_law9
  rw [gd_pos g1]
  obtain ⟨ρ, h1, C, h3, hN, h5, h6, h7⟩ := id hIn
  exact law_c hIn (AN_state h1 C h3 _) (fun x e => by unfold fL_state_LOut; rw [e] <;> rfl) (fun k t hE e => by
    have hE2 : (k = 3 ∧ t = 1) := by simpa using hE
    rcases hE2 with ⟨rfl, rfl⟩ <;> (unfold fL_state_LOut; rw [e]; exact ⟨rfl, by omega, by omega⟩)) (fun _ _ => rfl)
theorem lawC_10 (hIn : InQ σ μ) (g1 : inb (i + (1 : Int32)) L) : LG (fL_law10 xs L i σ μ ω) := by
  unfold fL_law10
  rw [gd_pos g1]
  obtain ⟨ρ, h1, C, h3, hN, h5, h6, h7⟩ := id hIn
  exact law_c hIn (AN_waiting h1 C h3 _) (fun x e => by unfold fL_waiting_LOut; rw [e] <;> rfl) (fun k t hE e => by
    have hE2 : (k = 3 ∧ t = 1) := by simpa using hE
    rcases hE2 with ⟨rfl, rfl⟩ <;> (unfold fL_waiting_LOut; rw [e]; exact ⟨rfl, by omega, by omega⟩)) (fun _ _ => rfl)
theorem lawC_11 (hIn : InQ σ μ) (g1 : inb (i + (1 : Int32)) L) : LG (fL_law11 xs L i σ μ ω) := by
  unfold fL_law11
  rw [gd_pos g1]
  obtain ⟨ρ, h1, C, h3, hN, h5, h6, h7⟩ := id hIn
  exact law_c hIn (AN_placed h1 C h3 _) (fun x e => by unfold fL_placed_LOut; rw [e] <;> rfl) (fun k t hE e => by
    have hE2 : (k = 3 ∧ t = 1) := by simpa using hE
    rcases hE2 with ⟨rfl, rfl⟩ <;> (unfold fL_placed_LOut; rw [e]; exact ⟨rfl, by omega, by omega⟩)) (fun _ _ => rfl)
theorem lawC_12 (hIn : InQ σ μ) (g1 : inb (i + (1 : Int32)) L) : LG (fL_law12 xs L i σ μ ω) := by
  unfold fL_law12
  rw [gd_pos g1]
  obtain ⟨ρ, h1, C, h3, hN, h5, h6, h7⟩ := id hIn
  exact law_c hIn (AN_roomsOf h1 C h3 _) (fun x e => by unfold fL_roomsOf_LOut; rw [e] <;> rfl) (fun k t hE e => by
    have hE2 : (k = 3 ∧ t = 1) := by simpa using hE
    rcases hE2 with ⟨rfl, rfl⟩ <;> (unfold fL_roomsOf_LOut; rw [e]; exact ⟨rfl, by omega, by omega⟩)) (fun _ _ => rfl)
theorem lawC_13 (hIn : InQ σ μ) (g1 : inb (i + (1 : Int32)) L) (g2 : inb (i + (2 : Int32)) L) : LG (fL_law13 xs L i σ μ ω) := by
  unfold fL_law13
  rw [gd_pos g1, gd_pos g2]
  obtain ⟨ρ, h1, C, h3, hN, h5, h6, h7⟩ := id hIn
  exact law_c hIn (AN_roomOf h1 C h3 _ _) (fun x e => by unfold fL_roomOf_LOut; rw [e] <;> rfl) (fun k t hE e => by
    have hE2 : (k = 3 ∧ t = 1) ∨ (k = 4 ∧ t = 2) := by simpa using hE
    rcases hE2 with ⟨rfl, rfl⟩ | ⟨rfl, rfl⟩ <;> (unfold fL_roomOf_LOut; rw [e]; exact ⟨rfl, by omega, by omega⟩)) (fun _ _ => rfl)
theorem lawC_14 (hIn : InQ σ μ) (g1 : inb (i + (1 : Int32)) L) (g2 : inb (i + (2 : Int32)) L) : LG (fL_law14 xs L i σ μ ω) := by
  unfold fL_law14
  rw [gd_pos g1, gd_pos g2]
  obtain ⟨ρ, h1, C, h3, hN, h5, h6, h7⟩ := id hIn
  exact law_c hIn (AN_bedOf h1 C h3 _ _) (fun x e => by unfold fL_bedOf_LOut; rw [e] <;> rfl) (fun k t hE e => by
    have hE2 : (k = 3 ∧ t = 1) ∨ (k = 4 ∧ t = 2) := by simpa using hE
    rcases hE2 with ⟨rfl, rfl⟩ | ⟨rfl, rfl⟩ <;> (unfold fL_bedOf_LOut; rw [e]; exact ⟨rfl, by omega, by omega⟩)) (fun _ _ => rfl)
theorem lawC_15 (hIn : InQ σ μ) (g1 : inb (i + (1 : Int32)) L) (g2 : inb (i + (2 : Int32)) L) (g3 : inb (i + (3 : Int32)) L) : LG (fL_law15 xs L i σ μ ω) := by
  unfold fL_law15
  rw [gd_pos g1, gd_pos g2, gd_pos g3]
  obtain ⟨ρ, h1, C, h3, hN, h5, h6, h7⟩ := id hIn
  exact law_c hIn (AN_occupant h1 C h3 _ _ _) (fun x e => by unfold fL_occupant_LOut; rw [e] <;> rfl) (fun k t hE e => by
    have hE2 : (k = 3 ∧ t = 1) := by simpa using hE
    rcases hE2 with ⟨rfl, rfl⟩ <;> (unfold fL_occupant_LOut; rw [e]; exact ⟨rfl, by omega, by omega⟩)) (fun _ _ => rfl)
theorem lawC_16 (hIn : InQ σ μ) (g1 : inb (i + (1 : Int32)) L) (g2 : inb (i + (2 : Int32)) L) : LG (fL_law16 xs L i σ μ ω) := by
  unfold fL_law16
  rw [gd_pos g1, gd_pos g2]
  obtain ⟨ρ, h1, C, h3, hN, h5, h6, h7⟩ := id hIn
  exact law_c hIn (AN_freeBeds h1 C h3 _ _) (fun x e => by unfold fL_freeBeds_LOut; rw [e] <;> rfl) (fun k t hE e => by
    have hE2 : (k = 3 ∧ t = 1) := by simpa using hE
    rcases hE2 with ⟨rfl, rfl⟩ <;> (unfold fL_freeBeds_LOut; rw [e]; exact ⟨rfl, by omega, by omega⟩)) (fun _ _ => rfl)
theorem lawC_17 (hIn : InQ σ μ) (g1 : inb (i + (1 : Int32)) L) : LG (fL_law17 xs L i σ μ ω) := by
  unfold fL_law17
  rw [gd_pos g1]
  obtain ⟨ρ, h1, C, h3, hN, h5, h6, h7⟩ := id hIn
  exact law_c hIn (AN_occupied h1 C h3 _) (fun x e => by unfold fL_occupied_LOut; rw [e] <;> rfl) (fun k t hE e => by
    have hE2 : (k = 3 ∧ t = 1) := by simpa using hE
    rcases hE2 with ⟨rfl, rfl⟩ <;> (unfold fL_occupied_LOut; rw [e]; exact ⟨rfl, by omega, by omega⟩)) (fun _ _ => rfl)
theorem lawC_18 (hIn : InQ σ μ) (g1 : inb (i + (1 : Int32)) L) : LG (fL_law18 xs L i σ μ ω) := by
  unfold fL_law18
  rw [gd_pos g1]
  obtain ⟨ρ, h1, C, h3, hN, h5, h6, h7⟩ := id hIn
  exact law_c hIn (AN_booked h1 C h3 _) (fun x e => by unfold fL_booked_LOut; rw [e] <;> rfl) (fun k t hE e => by
    have hE2 : (k = 3 ∧ t = 1) := by simpa using hE
    rcases hE2 with ⟨rfl, rfl⟩ <;> (unfold fL_booked_LOut; rw [e]; exact ⟨rfl, by omega, by omega⟩)) (fun _ _ => rfl)
theorem lawC_19 (hIn : InQ σ μ) (g1 : inb (i + (1 : Int32)) L) : LG (fL_law19 xs L i σ μ ω) := by
  unfold fL_law19
  rw [gd_pos g1]
  obtain ⟨ρ, h1, C, h3, hN, h5, h6, h7⟩ := id hIn
  exact law_c hIn (AN_walked h1 C h3 _) (fun x e => by unfold fL_walked_LOut; rw [e] <;> rfl) (fun k t hE e => by
    have hE2 : (k = 3 ∧ t = 1) := by simpa using hE
    rcases hE2 with ⟨rfl, rfl⟩ <;> (unfold fL_walked_LOut; rw [e]; exact ⟨rfl, by omega, by omega⟩)) (fun _ _ => rfl)
theorem lawC_20 (hIn : InQ σ μ) : LG (fL_law20 xs L i σ μ ω) := by
  unfold fL_law20
  obtain ⟨ρ, h1, C, h3, -⟩ := id hIn
  exact law_0 hIn (A0_full h1 C h3)
theorem lawC_21 (hIn : InQ σ μ) (g1 : inb (i + (1 : Int32)) L) (g2 : inb (i + (2 : Int32)) L) : LG (fL_law21 xs L i σ μ ω) := by
  unfold fL_law21
  rw [gd_pos g1, gd_pos g2]
  obtain ⟨ρ, h1, C, h3, hN, h5, h6, h7⟩ := id hIn
  exact law_c hIn (AN_longest h1 C h3 _ _) (fun x e => by unfold fL_longestFree_LOut; rw [e] <;> rfl) (fun k t hE e => by
    have hE2 : (k = 3 ∧ t = 1) := by simpa using hE
    rcases hE2 with ⟨rfl, rfl⟩ <;> (unfold fL_longestFree_LOut; rw [e]; exact ⟨rfl, by omega, by omega⟩)) (fun _ _ => rfl)
theorem lawC_22 (hIn : InQ σ μ) : LG (fL_law22 xs L i σ μ ω) := by
  unfold fL_law22
  obtain ⟨ρ, h1, C, h3, -⟩ := id hIn
  exact law_0 hIn (A0_splits h1 C h3)
theorem lawC_23 (hIn : InQ σ μ) (g1 : inb (i + (1 : Int32)) L) : LG (fL_law23 xs L i σ μ ω) := by
  unfold fL_law23
  rw [gd_pos g1]
  obtain ⟨ρ, h1, C, h3, hN, h5, h6, h7⟩ := id hIn
  exact law_c hIn (AN_extend h1 C h3 _) (fun x e => by unfold fL_extendable_LOut; rw [e] <;> rfl) (fun k t hE e => by
    have hE2 : (k = 3 ∧ t = 1) := by simpa using hE
    rcases hE2 with ⟨rfl, rfl⟩ <;> (unfold fL_extendable_LOut; rw [e]; exact ⟨rfl, by omega, by omega⟩)) (fun _ _ => rfl)
theorem lawC_24 (hIn : InQ σ μ) (g1 : inb (i + (1 : Int32)) L) : LG (fL_law24 xs L i σ μ ω) := by
  unfold fL_law24
  rw [gd_pos g1]
  obtain ⟨ρ, h1, C, h3, hN, h5, h6, h7⟩ := id hIn
  exact law_c hIn (AN_pays h1 C h3 _) (fun x e => by unfold fL_pays_LOut; rw [e] <;> rfl) (fun k t hE e => by
    have hE2 : (k = 3 ∧ t = 1) := by simpa using hE
    rcases hE2 with ⟨rfl, rfl⟩ <;> (unfold fL_pays_LOut; rw [e]; exact ⟨rfl, by omega, by omega⟩)) (fun _ _ => rfl)
theorem lawC_25 (hIn : InQ σ μ) : LG (fL_law25 xs L i σ μ ω) := by
  unfold fL_law25
  obtain ⟨ρ, h1, C, h3, -⟩ := id hIn
  exact law_0 hIn (A0_walkCost h1 C h3)
theorem lawC_26 (hIn : InQ σ μ) : LG (fL_law26 xs L i σ μ ω) := by
  unfold fL_law26
  obtain ⟨ρ, h1, C, h3, -⟩ := id hIn
  exact law_0 hIn (A0_net h1 C h3)
theorem lawC_27 (hIn : InQ σ μ) (g1 : inb (i + (1 : Int32)) L) (g2 : inb (i + (2 : Int32)) L) : LG (fL_law27 xs L i σ μ ω) := by
  unfold fL_law27
  rw [gd_pos g1, gd_pos g2]
  exact law_d (ANd_chance hIn _ _) (fun x σ2 e => by unfold fL_chance_LOutD; rw [e] <;> rfl) (fun k t σ2 hE e => by
    have hE2 : (k = 3 ∧ t = 1) := by simpa using hE
    rcases hE2 with ⟨rfl, rfl⟩ <;> (unfold fL_chance_LOutD; rw [e]; exact ⟨rfl, by omega, by omega⟩)) (fun _ _ => rfl)
theorem lawC_28 (hIn : InQ σ μ) (g1 : inb (i + (1 : Int32)) L) : LG (fL_law28 xs L i σ μ ω) := by
  unfold fL_law28
  rw [gd_pos g1]
  exact law_d (ANd_risk hIn _) (fun x σ2 e => by unfold fL_risk_LOutD; rw [e] <;> rfl) (fun k t σ2 hE e => by
    have hE2 : (k = 3 ∧ t = 1) := by simpa using hE
    rcases hE2 with ⟨rfl, rfl⟩ <;> (unfold fL_risk_LOutD; rw [e]; exact ⟨rfl, by omega, by omega⟩)) (fun _ _ => rfl)
theorem lawC_29 (hIn : InQ σ μ) (g1 : inb (i + (1 : Int32)) L) : LG (fL_law29 xs L i σ μ ω) := by
  unfold fL_law29
  rw [gd_pos g1]
  exact law_d (ANd_walks hIn _) (fun x σ2 e => by unfold fL_expectedWalks_LOutD; rw [e] <;> rfl) (fun k t σ2 hE e => by
    have hE2 : (k = 3 ∧ t = 1) := by simpa using hE
    rcases hE2 with ⟨rfl, rfl⟩ <;> (unfold fL_expectedWalks_LOutD; rw [e]; exact ⟨rfl, by omega, by omega⟩)) (fun _ _ => rfl)
theorem lawC_30 (hIn : InQ σ μ) (g1 : inb (i + (1 : Int32)) L) (g2 : inb (i + (2 : Int32)) L) (g3 : inb (i + (3 : Int32)) L) (g4 : inb (i + (4 : Int32)) L) (g5 : inb (i + (5 : Int32)) L) : LG (fL_law30 xs L i σ μ ω) := by
  unfold fL_law30
  rw [gd_pos g1, gd_pos g2, gd_pos g3, gd_pos g4, gd_pos g5]
  exact law_m (ANm_wouldBe hIn _ _ _ _ _) (fun x σ2 e => by unfold fL_wouldBe_LOut; rw [e] <;> rfl) (fun k t σ2 hE e => by
    have hE2 : (k = 2 ∧ t = 1) := by simpa using hE
    rcases hE2 with ⟨rfl, rfl⟩ <;> (unfold fL_wouldBe_LOut; rw [e]; exact ⟨rfl, by omega, by omega⟩)) (fun _ _ => rfl)
theorem lawC_31 (hIn : InQ σ μ) (g1 : inb (i + (1 : Int32)) L) (g2 : inb (i + (2 : Int32)) L) (g3 : inb (i + (3 : Int32)) L) (g4 : inb (i + (4 : Int32)) L) : LG (fL_law31 xs L i σ μ ω) := by
  unfold fL_law31
  rw [gd_pos g1, gd_pos g2, gd_pos g3, gd_pos g4]
  exact law_m (ANm_bestStay hIn _ _ _ _) (fun x σ2 e => by unfold fL_bestStay_LOut; rw [e] <;> rfl) (fun k t σ2 hE e => by
    have hE2 : (k = 2 ∧ t = 1) := by simpa using hE
    rcases hE2 with ⟨rfl, rfl⟩ <;> (unfold fL_bestStay_LOut; rw [e]; exact ⟨rfl, by omega, by omega⟩)) (fun _ _ => rfl)
theorem lawC_32 (hIn : InQ σ μ) (g1 : inb (i + (1 : Int32)) L) : LG (fL_law32 xs L i σ μ ω) := by
  unfold fL_law32
  rw [gd_pos g1]
  exact law_m (ANm_netWithout hIn _) (fun x σ2 e => by unfold fL_netWithout_LOut; rw [e] <;> rfl) (fun k t σ2 hE e => by
    have hE2 : (k = 3 ∧ t = 1) := by simpa using hE
    rcases hE2 with ⟨rfl, rfl⟩ <;> (unfold fL_netWithout_LOut; rw [e]; exact ⟨rfl, by omega, by omega⟩)) (fun _ _ => rfl)
theorem lawC_33 (hIn : InQ σ μ) : LG (fL_law33 xs L i σ μ ω) := by
  unfold fL_law33
  obtain ⟨x, σ2, e, q, eq, hq1, -, hI⟩ := A1_bestOver hIn
  rw [e, eq, Option.bind_some, Option.bind_some, hq1, if_pos rfl]
  exact ⟨_, rfl, hI⟩
theorem lawC_34 (hIn : InQ σ μ) (g1 : inb (i + (1 : Int32)) L) (g2 : inb (i + (2 : Int32)) L) (g3 : inb (i + (3 : Int32)) L) (g4 : inb (i + (4 : Int32)) L) (g5 : inb (i + (5 : Int32)) L) (g6 : inb (i + (6 : Int32)) L) : LG (fL_law34 xs L i σ μ ω) := by
  unfold fL_law34
  rw [gd_pos g1, gd_pos g2, gd_pos g3, gd_pos g4, gd_pos g5, gd_pos g6]
  exact law_m (ANm_book hIn _ _ _ _ _ _) (fun x σ2 e => by unfold fL_book_LOut; rw [e] <;> rfl) (fun k t σ2 hE e => by
    have hE2 : (k = 2 ∧ t = 1) ∨ (k = 1 ∧ t = 2) := by simpa using hE
    rcases hE2 with ⟨rfl, rfl⟩ | ⟨rfl, rfl⟩ <;> (unfold fL_book_LOut; rw [e]; exact ⟨rfl, by omega, by omega⟩)) (fun _ _ => rfl)
theorem lawC_35 (hIn : InQ σ μ) (g1 : inb (i + (1 : Int32)) L) : LG (fL_law35 xs L i σ μ ω) := by
  unfold fL_law35
  rw [gd_pos g1]
  exact law_m (ANm_cancel hIn _) (fun x σ2 e => by unfold fL_cancel_LOut; rw [e] <;> rfl) (fun k t σ2 hE e => by
    have hE2 : (k = 3 ∧ t = 1) ∨ (k = 1 ∧ t = 2) := by simpa using hE
    rcases hE2 with ⟨rfl, rfl⟩ | ⟨rfl, rfl⟩ <;> (unfold fL_cancel_LOut; rw [e]; exact ⟨rfl, by omega, by omega⟩)) (fun _ _ => rfl)
theorem lawC_36 (hIn : InQ σ μ) (g1 : inb (i + (1 : Int32)) L) (g2 : inb (i + (2 : Int32)) L) : LG (fL_law36 xs L i σ μ ω) := by
  unfold fL_law36
  rw [gd_pos g1, gd_pos g2]
  unfold jL_law36_2364 jL_law36_2391 jL_law36_2425
  by_cases z : xs (i + (2 : Int32)).toNatClampNeg = 0
  · rw [if_pos z]
    simp only [if_pos z]
    have h : ANm (fX5_setAbsent (xs (i + (1 : Int32)).toNatClampNeg) (0 : Int32) σ) (fX6_setAbsent (xs (i + (1 : Int32)).toNatClampNeg) (0 : Int32) μ) [(3, 1)] InQ := ANm_setAbsent hIn _ (v := 0) (by omega)
    exact law_b h (fun x σ2 e => by
      unfold fL_setAbsent_LOut jL_setAbsent_LOut_16
      rw [e, Option.bind_some]
      by_cases y : x = 0
      · rw [if_pos y]
        try dsimp only [Sum.elim_inl]
        rw [if_pos y]
      · rw [if_neg y]
        try dsimp only [Sum.elim_inl]
        rw [if_neg y]) (fun k t σ2 hE e => by
    have hE2 : (k = 3 ∧ t = 1) := by simpa using hE
    rcases hE2 with ⟨rfl, rfl⟩ <;> (unfold fL_setAbsent_LOut; rw [e]; exact ⟨rfl, by omega, by omega⟩)) (fun _ _ => rfl)
  · rw [if_neg z]
    simp only [if_neg z]
    have h : ANm (fX5_setAbsent (xs (i + (1 : Int32)).toNatClampNeg) (1 : Int32) σ) (fX6_setAbsent (xs (i + (1 : Int32)).toNatClampNeg) (1 : Int32) μ) [(3, 1)] InQ := ANm_setAbsent hIn _ (v := 1) (by omega)
    exact law_b h (fun x σ2 e => by
      unfold fL_setAbsent_LOut jL_setAbsent_LOut_16
      rw [e, Option.bind_some]
      by_cases y : x = 0
      · rw [if_pos y]
        try dsimp only [Sum.elim_inl]
        rw [if_pos y]
      · rw [if_neg y]
        try dsimp only [Sum.elim_inl]
        rw [if_neg y]) (fun k t σ2 hE e => by
    have hE2 : (k = 3 ∧ t = 1) := by simpa using hE
    rcases hE2 with ⟨rfl, rfl⟩ <;> (unfold fL_setAbsent_LOut; rw [e]; exact ⟨rfl, by omega, by omega⟩)) (fun _ _ => rfl)
theorem lawC_37 (hIn : InQ σ μ) (g1 : inb (i + (1 : Int32)) L) (g2 : inb (i + (2 : Int32)) L) : LG (fL_law37 xs L i σ μ ω) := by
  unfold fL_law37
  rw [gd_pos g1, gd_pos g2]
  unfold jL_law37_2455 jL_law37_2482 jL_law37_2516
  by_cases z : xs (i + (2 : Int32)).toNatClampNeg = 0
  · rw [if_pos z]
    simp only [if_pos z]
    have h : ANm (fX5_setTogether (xs (i + (1 : Int32)).toNatClampNeg) (0 : Int32) σ) (fX6_setTogether (xs (i + (1 : Int32)).toNatClampNeg) (0 : Int32) μ) [(3, 1)] InQ := ANm_setTogether hIn _ (v := 0) (by omega)
    exact law_b h (fun x σ2 e => by
      unfold fL_setTogether_LOut jL_setTogether_LOut_16
      rw [e, Option.bind_some]
      by_cases y : x = 0
      · rw [if_pos y]
        try dsimp only [Sum.elim_inl]
        rw [if_pos y]
      · rw [if_neg y]
        try dsimp only [Sum.elim_inl]
        rw [if_neg y]) (fun k t σ2 hE e => by
    have hE2 : (k = 3 ∧ t = 1) := by simpa using hE
    rcases hE2 with ⟨rfl, rfl⟩ <;> (unfold fL_setTogether_LOut; rw [e]; exact ⟨rfl, by omega, by omega⟩)) (fun _ _ => rfl)
  · rw [if_neg z]
    simp only [if_neg z]
    have h : ANm (fX5_setTogether (xs (i + (1 : Int32)).toNatClampNeg) (1 : Int32) σ) (fX6_setTogether (xs (i + (1 : Int32)).toNatClampNeg) (1 : Int32) μ) [(3, 1)] InQ := ANm_setTogether hIn _ (v := 1) (by omega)
    exact law_b h (fun x σ2 e => by
      unfold fL_setTogether_LOut jL_setTogether_LOut_16
      rw [e, Option.bind_some]
      by_cases y : x = 0
      · rw [if_pos y]
        try dsimp only [Sum.elim_inl]
        rw [if_pos y]
      · rw [if_neg y]
        try dsimp only [Sum.elim_inl]
        rw [if_neg y]) (fun k t σ2 hE e => by
    have hE2 : (k = 3 ∧ t = 1) := by simpa using hE
    rcases hE2 with ⟨rfl, rfl⟩ <;> (unfold fL_setTogether_LOut; rw [e]; exact ⟨rfl, by omega, by omega⟩)) (fun _ _ => rfl)
theorem lawC_38 (hIn : InQ σ μ) (g1 : inb (i + (1 : Int32)) L) : LG (fL_law38 xs L i σ μ ω) := by
  unfold fL_law38
  rw [gd_pos g1]
  exact law_m (ANm_setOver hIn _) (fun x σ2 e => by unfold fL_setOver_LOut; rw [e] <;> rfl) (fun k t σ2 hE e => by
    have hE2 : (k = 2 ∧ t = 1) := by simpa using hE
    rcases hE2 with ⟨rfl, rfl⟩ <;> (unfold fL_setOver_LOut; rw [e]; exact ⟨rfl, by omega, by omega⟩)) (fun _ _ => rfl)
theorem lawC_39 (hIn : InQ σ μ) (g1 : inb (i + (1 : Int32)) L) : LG (fL_law39 xs L i σ μ ω) := by
  unfold fL_law39
  rw [gd_pos g1]
  exact law_m (ANm_setWalk hIn _) (fun x σ2 e => by unfold fL_setWalk_LOut; rw [e] <;> rfl) (fun k t σ2 hE e => by
    have hE2 : (k = 2 ∧ t = 1) := by simpa using hE
    rcases hE2 with ⟨rfl, rfl⟩ <;> (unfold fL_setWalk_LOut; rw [e]; exact ⟨rfl, by omega, by omega⟩)) (fun _ _ => rfl)
theorem lawC_40 (hIn : InQ σ μ) (g1 : inb (i + (1 : Int32)) L) (g2 : inb (i + (2 : Int32)) L) : LG (fL_law40 xs L i σ μ ω) := by
  unfold fL_law40
  rw [gd_pos g1, gd_pos g2]
  exact law_m (ANm_setPrice hIn _ _) (fun x σ2 e => by unfold fL_setPrice_LOut; rw [e] <;> rfl) (fun k t σ2 hE e => by
    have hE2 : (k = 3 ∧ t = 1) ∨ (k = 2 ∧ t = 2) := by simpa using hE
    rcases hE2 with ⟨rfl, rfl⟩ | ⟨rfl, rfl⟩ <;> (unfold fL_setPrice_LOut; rw [e]; exact ⟨rfl, by omega, by omega⟩)) (fun _ _ => rfl)
theorem lawC_41 (hIn : InQ σ μ) : LG (fL_law41 xs L i σ μ ω) := by
  unfold fL_law41
  exact law_m (ANm_undo hIn) (fun x σ2 e => by unfold fL_undo_LOut; rw [e] <;> rfl) (fun k t σ2 hE e => by
    have hE2 : (k = 1 ∧ t = 1) := by simpa using hE
    rcases hE2 with ⟨rfl, rfl⟩ <;> (unfold fL_undo_LOut; rw [e]; exact ⟨rfl, by omega, by omega⟩)) (fun _ _ => rfl)
theorem lawC_42 (hIn : InQ σ μ) (g1 : inb (i + (1 : Int32)) L) : LG (fL_law42 xs L i σ μ ω) := by
  unfold fL_law42
  rw [gd_pos g1]
  exact law_m (ANm_format hIn _) (fun x σ2 e => by unfold fL_format_LOut; rw [e] <;> rfl) (fun k t σ2 hE e => by
    have hE2 : (k = 3 ∧ t = 1) := by simpa using hE
    rcases hE2 with ⟨rfl, rfl⟩ <;> (unfold fL_format_LOut; rw [e]; exact ⟨rfl, by omega, by omega⟩)) (fun _ _ => rfl)
theorem lawC_43 (hIn : InQ σ μ) (g1 : inb (i + (1 : Int32)) L) : LG (fL_law43 xs L i σ μ ω) := by
  unfold fL_law43
  rw [gd_pos g1]
  obtain ⟨ρ, h1, C, h3, hN, h5, h6, h7⟩ := id hIn
  exact law_c hIn (AN_formattedCharacter h7 _) (fun x e => by unfold fL_formattedCharacter_LOut; rw [e] <;> rfl) (fun k t hE e => by
    have hE2 : (k = 3 ∧ t = 1) := by simpa using hE
    rcases hE2 with ⟨rfl, rfl⟩ <;> (unfold fL_formattedCharacter_LOut; rw [e]; exact ⟨rfl, by omega, by omega⟩)) (fun _ _ => rfl)
end
theorem law_all {xs : Nat → Int32} {L : Nat} {i : Int32} {σ μ ω : Mem} (hIn : InQ σ μ) (g1 : inb (i + (1 : Int32)) L) (g2 : inb (i + (2 : Int32)) L) (g3 : inb (i + (3 : Int32)) L) (g4 : inb (i + (4 : Int32)) L) (g5 : inb (i + (5 : Int32)) L) (g6 : inb (i + (6 : Int32)) L) : ∀ k, LG (fLk xs L i σ μ ω k)
  | 0 => lawC_0 (xs := xs) (L := L) (i := i) hIn g1 g2 g3 g4 g5
  | 1 => lawC_1 (xs := xs) (L := L) (i := i) hIn g1
  | 2 => lawC_2 (xs := xs) (L := L) (i := i) hIn
  | 3 => lawC_3 (xs := xs) (L := L) (i := i) hIn
  | 4 => lawC_4 (xs := xs) (L := L) (i := i) hIn g1
  | 5 => lawC_5 (xs := xs) (L := L) (i := i) hIn g1
  | 6 => lawC_6 (xs := xs) (L := L) (i := i) hIn g1 g2
  | 7 => lawC_7 (xs := xs) (L := L) (i := i) hIn g1 g2
  | 8 => lawC_8 (xs := xs) (L := L) (i := i) hIn g1
  | 9 => lawC_9 (xs := xs) (L := L) (i := i) hIn g1
  | 10 => lawC_10 (xs := xs) (L := L) (i := i) hIn g1
  | 11 => lawC_11 (xs := xs) (L := L) (i := i) hIn g1
  | 12 => lawC_12 (xs := xs) (L := L) (i := i) hIn g1
  | 13 => lawC_13 (xs := xs) (L := L) (i := i) hIn g1 g2
  | 14 => lawC_14 (xs := xs) (L := L) (i := i) hIn g1 g2
  | 15 => lawC_15 (xs := xs) (L := L) (i := i) hIn g1 g2 g3
  | 16 => lawC_16 (xs := xs) (L := L) (i := i) hIn g1 g2
  | 17 => lawC_17 (xs := xs) (L := L) (i := i) hIn g1
  | 18 => lawC_18 (xs := xs) (L := L) (i := i) hIn g1
  | 19 => lawC_19 (xs := xs) (L := L) (i := i) hIn g1
  | 20 => lawC_20 (xs := xs) (L := L) (i := i) hIn
  | 21 => lawC_21 (xs := xs) (L := L) (i := i) hIn g1 g2
  | 22 => lawC_22 (xs := xs) (L := L) (i := i) hIn
  | 23 => lawC_23 (xs := xs) (L := L) (i := i) hIn g1
  | 24 => lawC_24 (xs := xs) (L := L) (i := i) hIn g1
  | 25 => lawC_25 (xs := xs) (L := L) (i := i) hIn
  | 26 => lawC_26 (xs := xs) (L := L) (i := i) hIn
  | 27 => lawC_27 (xs := xs) (L := L) (i := i) hIn g1 g2
  | 28 => lawC_28 (xs := xs) (L := L) (i := i) hIn g1
  | 29 => lawC_29 (xs := xs) (L := L) (i := i) hIn g1
  | 30 => lawC_30 (xs := xs) (L := L) (i := i) hIn g1 g2 g3 g4 g5
  | 31 => lawC_31 (xs := xs) (L := L) (i := i) hIn g1 g2 g3 g4
  | 32 => lawC_32 (xs := xs) (L := L) (i := i) hIn g1
  | 33 => lawC_33 (xs := xs) (L := L) (i := i) hIn
  | 34 => lawC_34 (xs := xs) (L := L) (i := i) hIn g1 g2 g3 g4 g5 g6
  | 35 => lawC_35 (xs := xs) (L := L) (i := i) hIn g1
  | 36 => lawC_36 (xs := xs) (L := L) (i := i) hIn g1 g2
  | 37 => lawC_37 (xs := xs) (L := L) (i := i) hIn g1 g2
  | 38 => lawC_38 (xs := xs) (L := L) (i := i) hIn g1
  | 39 => lawC_39 (xs := xs) (L := L) (i := i) hIn g1
  | 40 => lawC_40 (xs := xs) (L := L) (i := i) hIn g1 g2
  | 41 => lawC_41 (xs := xs) (L := L) (i := i) hIn
  | 42 => lawC_42 (xs := xs) (L := L) (i := i) hIn g1
  | 43 => lawC_43 (xs := xs) (L := L) (i := i) hIn g1
  | k + 44 => ⟨_, rfl, hIn⟩
