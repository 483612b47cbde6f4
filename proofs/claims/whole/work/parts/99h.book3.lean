/-! layer 2: the six numbers of a booking -/
section
variable {σ σ2 μ μ2 : Mem} {j N s : Nat} {B : Nat → Int32} {ρ : RwQ}
def bk15 (q8 q9 q10 q12 q13 q14 : Int32 × Mem) (q1 : Int32) (q6 : Mem) : Option Mem := ((fX6_isWell q14.2).bind fun q15 => (if q15 = nI 0 then (jX6_readBook_177 q8 q9 q10 q12 q13 q14 q1 q6) else (((fX6_spelled (116 : Int32) (111 : Int32) (103 : Int32) (101 : Int32) (116 : Int32) (104 : Int32) (101 : Int32)).bind fun q25 => fX6_more q25 (114 : Int32)).bind fun q26 => ((fX6_isWord q26 q14.2).bind fun q27 => (if q27 = nI 0 then (jX6_readBook_177 q8 q9 q10 q12 q13 q14 q1 q6) else (jX6_readBook_178 q8 q9 q10 q12 q13 q14 q1 q6 (nI 1)))))))
def bk13 (q8 q9 q10 q12 q13 : Int32 × Mem) (q1 : Int32) (q6 : Mem) : Option Mem := ((fX6_readValue (nI 0) (nI 100) q13.2).bind fun q14 => bk15 q8 q9 q10 q12 q13 q14 q1 q6)
def bk12 (q8 q9 q10 q12 : Int32 × Mem) (q1 : Int32) (q6 : Mem) : Option Mem := ((fX6_readValue (nI 0) (nI 99) q12.2).bind fun q13 => bk13 q8 q9 q10 q12 q13 q1 q6)
def bk10 (q8 q9 q10 : Int32 × Mem) (t : Int32) (q1 : Int32) (q6 : Mem) : Option Mem := ((fX6_readValue t (nI 12 - q10.1) q10.2).bind fun q12 => bk12 q8 q9 q10 q12 q1 q6)
def bk56 (q1 : Int32) (q6 μ : Mem) : Option Mem := ((fX6_readValue (nI 0) (nI 29) μ).bind fun q8 => ((fX6_readValue (nI 1) (nI 30 - q8.1) q8.2).bind fun q9 => ((fX6_readValue (nI 0) (nI 12) q9.2).bind fun q10 => (if ¬ q10.1 = nI 0 then (bk10 q8 q9 q10 (nI 0) q1 q6) else (bk10 q8 q9 q10 (nI 1) q1 q6)))))
theorem bk109_eq (q10 q8 q9 : Int32 × Mem) (q1 : Int32) (q6 : Mem) (t : Int32) : jX6_readBook_109 q10 q8 q9 q1 q6 t = bk10 q8 q9 q10 t q1 q6 := by
  unfold jX6_readBook_109 bk10 bk12 bk13 bk15
  simp only [l_0, l_1, l_12, l_99, l_100, Option.bind_assoc]
theorem bk15_B {w : Nat} (h : Bad μ w) (q8 q9 q10 q12 q13 : Int32 × Mem) (v q1 : Int32) (q6 : Mem) : bk15 q8 q9 q10 q12 q13 (v, μ) q1 q6 = some μ := by
  unfold bk15 jX6_readBook_177 jX6_readBook_178 jX6_readBook_189
  try dsimp only
  rw [well_N h, Option.bind_some, if_pos rfl]
  simp only [l_0]
  rw [if_pos trivial, ends_B h, Option.bind_some, well_N h, Option.bind_some, if_neg (by decide)]
theorem bk13_B {w : Nat} (h : Bad μ w) (q8 q9 q10 q12 : Int32 × Mem) (v q1 : Int32) (q6 : Mem) : bk13 q8 q9 q10 q12 (v, μ) q1 q6 = some μ := by
  unfold bk13
  try dsimp only
  rw [val_B h, Option.bind_some, bk15_B h]
theorem bk12_B {w : Nat} (h : Bad μ w) (q8 q9 q10 : Int32 × Mem) (v q1 : Int32) (q6 : Mem) : bk12 q8 q9 q10 (v, μ) q1 q6 = some μ := by
  unfold bk12
  try dsimp only
  rw [val_B h, Option.bind_some, bk13_B h]
theorem bk10_B {w : Nat} (h : Bad μ w) (q8 q9 : Int32 × Mem) (v t q1 : Int32) (q6 : Mem) : bk10 q8 q9 (v, μ) t q1 q6 = some μ := by
  unfold bk10
  try dsimp only
  rw [val_B h, Option.bind_some, bk12_B h]
theorem bk56_B {w : Nat} (h : Bad μ w) (q1 : Int32) (q6 : Mem) : bk56 q1 q6 μ = some μ := by
  unfold bk56
  rw [val_B h, Option.bind_some]
  try dsimp only
  rw [val_B h, Option.bind_some]
  try dsimp only
  rw [val_B h, Option.bind_some]
  try dsimp only
  rw [bk10_B h, bk10_B h, if_neg (fun z => z rfl)]
theorem book56_eq (q4 : Mem) (q1 t : Int32) : jX6_readBook_56 q4 q1 t = ((fX6_must t q4).bind fun q6 => ((fX6_goesOn q6).bind fun q7 => bk56 q1 q6 q7)) := by
  unfold jX6_readBook_56 bk56
  simp only [l_0, l_1, l_12, l_29, l_30, bk109_eq]
theorem book56_B {w : Nat} (h : Bad μ w) (q1 t : Int32) : jX6_readBook_56 μ q1 t = some μ := by
  rw [book56_eq, must_B h, Option.bind_some, go_B h, Option.bind_some, bk56_B h]
theorem book56_N (R : RdR μ N B s) (q1 : Int32) : jX6_readBook_56 μ q1 (nI 0) = some (wI μ 75 0 0 (nI s)) := by
  have h := (bad_s R).1
  rw [book56_eq, must_N R, Option.bind_some, go_B h, Option.bind_some, bk56_B h]
theorem group_2 (R : RdC σ N B s) (R2 : RdR μ N B (nxT N B s)) (r : Nat) (q1 : Int32) (q6 : Mem) :
    (∃ f n w m a c s1 σ1 μ1 ma mb mc md me, fX2_readGroup j r σ = (fX0_fill j r (nI f) (nI n) (nI w) (nI m) (nI a) (nI c) σ1).bind (fun q => some (nI 1, q)) ∧ bk56 q1 q6 μ = bk15 (nI f, ma) (nI n, mb) (nI w, mc) (nI m, md) (nI a, me) (nI c, μ1) q1 q6 ∧ RdC σ1 N B s1 ∧ RdR μ1 N B (nxT N B s1) ∧ FA σ σ1 ∧ FY μ μ1 ∧ s ≤ s1 ∧ f ≤ 29 ∧ (1 ≤ n ∧ n ≤ 30 - f) ∧ w ≤ 12 ∧ ((if w = 0 then 1 else 0) ≤ m ∧ m ≤ 12 - w) ∧ a ≤ 99 ∧ c ≤ 100)
    ∨ (∃ w σ1 μ1, fX2_readGroup j r σ = some (nI 0, σ1) ∧ bk56 q1 q6 μ = some μ1 ∧ rI σ1 9 0 0 = nI w ∧ Bad μ1 w ∧ FA σ σ1 ∧ FY μ μ1) := by
  unfold fX2_readGroup jX2_readGroup_65 bk56
  simp only [l_0, l_1, l_12, l_29, l_30, l_99, l_100]
  rcases step_v R R2 (lo := 0) (hi := 29) (by omega) (by omega) with ⟨f, s1, σ1, μ1, x1, x2, x3, x4, x5, x6, x7, -, x9, x10⟩ | ⟨w, σ1, μ1, x1, x2, x3, x4, x5, x6⟩
  · rw [x1, x2, Option.bind_some, Option.bind_some]
    try dsimp only
    rw [if_pos (by decide), x7, pk_sub (by omega)]
    rcases step_v x3 x4 (lo := 1) (hi := 30 - f) (by omega) (by omega) with ⟨n, s2, σ2, μ2, y1, y2, y3, y4, y5, y6, y7, y8, y9, y10⟩ | ⟨w, σ2, μ2, y1, y2, y3, y4, y5, y6⟩
    · rw [y1, y2, Option.bind_some, Option.bind_some]
      try dsimp only
      rw [if_pos (by decide), y7]
      rcases step_v y3 y4 (lo := 0) (hi := 12) (by omega) (by omega) with ⟨w, s3, σ3, μ3, z1, z2, z3, z4, z5, z6, z7, -, z9, z10⟩ | ⟨w, σ3, μ3, z1, z2, z3, z4, z5, z6⟩
      · rw [z1, z2, Option.bind_some, Option.bind_some]
        try dsimp only
        rw [if_pos (by decide), z7, pk_sub (by omega)]
        have key : ∀ t, t = (if w = 0 then 1 else 0) → ∀ (x : Option (Int32 × Mem)) (y : Option Mem), x = ((fX2_readNumber (nI t) (nI (12 - w)) σ3).bind fun q5 => (if ¬ q5.1 = nI 0 then ((fX2_readNumber (nI 0) (nI 99) q5.2).bind fun q6 => (if ¬ q6.1 = nI 0 then ((fX2_readNumber (nI 0) (nI 100) q6.2).bind fun q7 => (if ¬ q7.1 = nI 0 then ((fX0_fill j r (nI f) (nI n) (nI w) (rI q5.2 11 0 0) (rI q6.2 11 0 0) (rI q7.2 11 0 0) q7.2).bind fun q8 => (some (nI 1, q8))) else (some (nI 0, q7.2)))) else (some (nI 0, q6.2)))) else (some (nI 0, q5.2)))) → y = bk10 (nI f, μ1) (nI n, μ2) (nI w, μ3) (nI t) q1 q6 →
            (∃ f n w m a c s1 σ1 μ1 ma mb mc md me, x = (fX0_fill j r (nI f) (nI n) (nI w) (nI m) (nI a) (nI c) σ1).bind (fun q => some (nI 1, q)) ∧ y = bk15 (nI f, ma) (nI n, mb) (nI w, mc) (nI m, md) (nI a, me) (nI c, μ1) q1 q6 ∧ RdC σ1 N B s1 ∧ RdR μ1 N B (nxT N B s1) ∧ FA σ σ1 ∧ FY μ μ1 ∧ s ≤ s1 ∧ f ≤ 29 ∧ (1 ≤ n ∧ n ≤ 30 - f) ∧ w ≤ 12 ∧ ((if w = 0 then 1 else 0) ≤ m ∧ m ≤ 12 - w) ∧ a ≤ 99 ∧ c ≤ 100)
            ∨ (∃ w σ1 μ1, x = some (nI 0, σ1) ∧ y = some μ1 ∧ rI σ1 9 0 0 = nI w ∧ Bad μ1 w ∧ FA σ σ1 ∧ FY μ μ1) := by
          rintro t ht x y rfl rfl
          have ht1 : t ≤ 1 := by rw [ht]; split <;> omega
          unfold bk10
          try dsimp only
          rw [pk_sub (by omega)]
          rcases step_v z3 z4 (lo := t) (hi := 12 - w) (by omega) (by omega) with ⟨m, s4, σ4, μ4, u1, u2, u3, u4, u5, u6, u7, u8, u9, u10⟩ | ⟨w', σ4, μ4, u1, u2, u3, u4, u5, u6⟩
          · rw [u1, u2, Option.bind_some, Option.bind_some]
            try dsimp only
            rw [if_pos (by decide), u7]
            unfold bk12
            try dsimp only
            rcases step_v u3 u4 (lo := 0) (hi := 99) (by omega) (by omega) with ⟨a, s5, σ5, μ5, v1, v2, v3, v4, v5, v6, v7, -, v9, v10⟩ | ⟨w', σ5, μ5, v1, v2, v3, v4, v5, v6⟩
            · rw [v1, v2, Option.bind_some, Option.bind_some]
              try dsimp only
              rw [if_pos (by decide), v7]
              unfold bk13
              try dsimp only
              rcases step_v v3 v4 (lo := 0) (hi := 100) (by omega) (by omega) with ⟨c, s6, σ6, μ6, g1, g2, g3, g4, g5, g6, g7, -, g9, g10⟩ | ⟨w', σ6, μ6, g1, g2, g3, g4, g5, g6⟩
              · rw [g1, g2, Option.bind_some, Option.bind_some]
                try dsimp only
                rw [if_pos (by decide), g7]
                exact Or.inl ⟨f, n, w, m, a, c, s6, σ6, μ6, μ1, μ2, μ3, μ4, μ5, rfl, rfl, g3, g4, FA_tr x5 (FA_tr y5 (FA_tr z5 (FA_tr u5 (FA_tr v5 g5)))), FY_tr x6 (FY_tr y6 (FY_tr z6 (FY_tr u6 (FY_tr v6 g6)))), by omega, x9, ⟨y8, y9⟩, z9, ⟨by rw [← ht]; exact u8, u9⟩, v9, g9⟩
              · rw [g1, g2, Option.bind_some, Option.bind_some, bk15_B g4]
                try dsimp only
                rw [if_neg (by decide)]
                exact Or.inr ⟨w', σ6, μ6, rfl, rfl, g3, g4, FA_tr x5 (FA_tr y5 (FA_tr z5 (FA_tr u5 (FA_tr v5 g5)))), FY_tr x6 (FY_tr y6 (FY_tr z6 (FY_tr u6 (FY_tr v6 g6))))⟩
            · rw [v1, v2, Option.bind_some, Option.bind_some, bk13_B v4]
              try dsimp only
              rw [if_neg (by decide)]
              exact Or.inr ⟨w', σ5, μ5, rfl, rfl, v3, v4, FA_tr x5 (FA_tr y5 (FA_tr z5 (FA_tr u5 v5))), FY_tr x6 (FY_tr y6 (FY_tr z6 (FY_tr u6 v6)))⟩
          · rw [u1, u2, Option.bind_some, Option.bind_some, bk12_B u4]
            try dsimp only
            rw [if_neg (by decide)]
            exact Or.inr ⟨w', σ4, μ4, rfl, rfl, u3, u4, FA_tr x5 (FA_tr y5 (FA_tr z5 u5)), FY_tr x6 (FY_tr y6 (FY_tr z6 u6))⟩
        by_cases q : w = 0
        · rw [if_neg (fun z => z (by rw [q])), if_neg (fun z => z (by rw [q]))]
          exact key 1 (by rw [if_pos q]) _ _ rfl rfl
        · rw [if_pos (nI_ne (by omega) (by omega) q), if_pos (nI_ne (by omega) (by omega) q)]
          exact key 0 (by rw [if_neg q]) _ _ rfl rfl
      · rw [z1, z2, Option.bind_some, Option.bind_some]
        try dsimp only
        rw [if_neg (by decide), bk10_B z4, bk10_B z4, if_neg (fun z => z rfl)]
        exact Or.inr ⟨w, σ3, μ3, rfl, rfl, z3, z4, FA_tr x5 (FA_tr y5 z5), FY_tr x6 (FY_tr y6 z6)⟩
    · rw [y1, y2, Option.bind_some, Option.bind_some]
      try dsimp only
      rw [if_neg (by decide), val_B y4, Option.bind_some]
      try dsimp only
      rw [bk10_B y4, bk10_B y4, if_neg (fun z => z rfl)]
      exact Or.inr ⟨w, σ2, μ2, rfl, rfl, y3, y4, FA_tr x5 y5, FY_tr x6 y6⟩
  · rw [x1, x2, Option.bind_some, Option.bind_some]
    try dsimp only
    rw [if_neg (by decide), val_B x4, Option.bind_some]
    try dsimp only
    rw [val_B x4, Option.bind_some]
    try dsimp only
    rw [bk10_B x4, bk10_B x4, if_neg (fun z => z rfl)]
    exact Or.inr ⟨w, σ1, μ1, rfl, rfl, x3, x4, x5, x6⟩
end
