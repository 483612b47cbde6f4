/-! layer 2: statement after statement -/
/-- two loops side by side; the second mayQ take one more round to stop -/
theorem loop_two {α β γ δ : Type} {st1 : α → Option (α ⊕ γ)} {st2 : β → Option (β ⊕ δ)} (I : Nat → α → β → Prop) {P : γ → δ → Prop} (n : Nat) (h : ∀ k a b, k ≤ n → I k a b → (k < n ∧ ∃ a2 b2, st1 a = some (.inl a2) ∧ st2 b = some (.inl b2) ∧ I (k + 1) a2 b2) ∨ (∃ x y, st1 a = some (.inr x) ∧ P x y ∧ (st2 b = some (.inr y) ∨ ∃ b2, st2 b = some (.inl b2) ∧ st2 b2 = some (.inr y)))) : ∀ (m k : Nat) (a : α) (b : β), k ≤ n → n + 1 < k + m → I k a b → ∃ x y, loop st1 m a = some x ∧ loop st2 m b = some y ∧ P x y := by
  intro m
  induction m with
  | zero => intro k a b h1 h2 _; omega
  | succ m ih =>
    intro k a b h1 h2 hI
    rcases h k a b h1 hI with ⟨hk, a2, b2, e1, e2, hI2⟩ | ⟨x, y, e1, hP, e2⟩
    · obtain ⟨x, y, f1, f2, f3⟩ := ih (k + 1) a2 b2 hk (by omega) hI2
      exact ⟨x, y, (loop_in (n := m) e1).trans f1, (loop_in (n := m) e2).trans f2, f3⟩
    · refine ⟨x, y, loop_out (n := m) e1, ?_, hP⟩
      rcases e2 with e2 | ⟨b2, e2, e3⟩
      · exact loop_out (n := m) e2
      · obtain ⟨m', rfl⟩ : ∃ m', m = m' + 1 := ⟨m - 1, by omega⟩
        exact (loop_in (n := m' + 1) e2).trans (loop_out (n := m') e3)
section
variable {σ σ2 μ μ2 : Mem} {j N s : Nat} {B : Nat → Int32} {ρ : RwQ}
theorem tk_semi (h : tkK N B s = 3) : s < N ∧ tkE N B s = s + 1 := by
  by_cases q : s < N
  · refine ⟨q, ?_⟩
    unfold tkK at h
    unfold tkE
    rw [if_pos q] at h ⊢
    by_cases ql : ltr (B s) = true
    · rw [if_pos ql] at h
      by_cases y : 8 < lts N B s
      · rw [if_pos y] at h; exact absurd h (by decide)
      · rw [if_neg y] at h; exact absurd h (by decide)
    · rw [if_neg ql] at h ⊢
      by_cases qd : dgt (B s) = true
      · rw [if_pos qd] at h
        by_cases y : 3 < dgs N B s
        · rw [if_pos y] at h; exact absurd h (by decide)
        · rw [if_neg y] at h; exact absurd h (by decide)
      · rw [if_neg qd]
  · unfold tkK at h
    rw [if_neg q] at h; exact absurd h (by decide)
def RES (k : Nat) (X : Option ((Int32 × Mem) ⊕ ((Mem) ⊕ (Int32 × Mem)))) (Y : Option Mem) (σ μ : Mem) (j N : Nat) (B : Nat → Int32) (s : Nat) : Prop := (∃ σ2 μ2 s2 ρ2, X = some (.inl (nI (k + 1), σ2)) ∧ Y = some μ2 ∧ s < s2 ∧ LD σ2 μ2 j N B s2 ρ2 ∧ FK j σ σ2 ∧ FM μ μ2) ∨ (∃ w σ2 μ2, X = some (.inr (.inr (nI w, σ2))) ∧ Y = some μ2 ∧ Bad μ2 w ∧ FK j σ σ2 ∧ FM μ μ2)
theorem st_fin {c : Option (Int32 × Mem)} {r : Option Mem} (h : SO c r σ μ j N B s) (k : Nat) (a : Mem) : RES k (c.bind fun q => jX2_read_160 (nI k, a) q.1 q.2) (r.bind fun q => jX6_readStatement_213 q) σ μ j N B s := by
  obtain ⟨σ2, μ2, a1, a2, a3, a4⟩ := h
  unfold jX2_read_160 jX6_readStatement_213
  simp only [l_0, l_1]
  rcases a4 with ⟨s2, ρ2, e1, e2, e3, R, R2, hR, C, h3, hN⟩ | ⟨w, e1, e2, e3⟩
  · obtain ⟨σ3, b1', b2, b3⟩ := adv_h R
    obtain ⟨μ3, c1, c2, c3⟩ := go_s R2
    have l1 := (skp_le (B := B) (tkE_le (B := B) R.2.1).2).1
    have l2 := (tk_semi e3).2
    rw [e1, a1, Option.bind_some, Option.bind_some]
    try dsimp only
    rw [if_pos (by decide), b1', c1, Option.bind_some, Option.bind_some, nI_add]
    exact Or.inl ⟨σ3, μ3, nxT N B s2, ρ2, rfl, rfl, by unfold nxT; omega, ⟨b2, c2, HR_FA hR b3, Cur_FY C c3, h3, Nm2_F hN b3 c3⟩, FK_tr a2 (FA_K b3), FM_tr a3 (FY_M c3)⟩
  · rw [e1, a1, Option.bind_some, Option.bind_some]
    try dsimp only
    rw [if_neg (by decide), e2, go_B e3, Option.bind_some]
    exact Or.inr ⟨w, σ2, μ2, rfl, rfl, e3, a2, a3⟩
theorem isw_ne {a b : Nat} (h : isw N B s (txW a) = true) (hne : txW a ≠ txW b) : isw N B s (txW b) = false := decide_eq_false (fun z => hne ((of_decide_eq_true h).2.symm.trans z.2))
theorem tk_nz (h : tkK N B s = 0) (i : Nat) : isw N B s (txW i) = false := decide_eq_false (fun z => by have := z.1; omega)
theorem stmt_2 (L : LD σ μ j N B s ρ) {k : Nat} (hk : k < 700) (h0 : tkK N B s ≠ 0) : RES k (stX2_read_15 j (nI k, σ)) (fX6_readStatement μ) σ μ j N B s := by
  obtain ⟨R, R2, hR, C, h3, hN⟩ := id L
  have h4 := tkK_le N B s
  unfold stX2_read_15 fX6_readStatement jX2_read_158 jX2_read_159
  try dsimp only
  rw [sp_0, sp_4, sp_6, sp_7, sp_8, sp_9, sp_10]
  simp only [Option.bind_some, l_0, l_1, l_700]
  rw [isw_i R2 (by omega), isw_i R2 (by omega), isw_i R2 (by omega), isw_i R2 (by omega), isw_i R2 (by omega), isw_i R2 (by omega), isw_i R2 (by omega), isw_h R (by omega), isw_h R (by omega), isw_h R (by omega), isw_h R (by omega), isw_h R (by omega), isw_h R (by omega), isw_h R (by omega)]
  rw [if_neg (nI_ge hk (by omega)), R.2.2.2.2.1, if_neg (nI_ne (by omega) (by omega) h0)]
  simp only [Option.bind_some]
  have F : ∀ x : Bool, x = true → ¬ nI (b1 x) = nI 0 := fun x hx => by rw [hx]; decide
  have T : ∀ x : Bool, x = false → nI (b1 x) = nI 0 := fun x hx => by rw [hx] <;> rfl
  by_cases w0 : isw N B s (txW 0) = true
  · rw [if_neg (F _ w0), if_neg (F _ w0)]
    exact st_fin (room_so L) k σ
  · have z0 := Bool.eq_false_iff.mpr w0
    rw [if_pos (T _ z0), if_pos (T _ z0)]
    by_cases w8 : isw N B s (txW 8) = true
    · rw [if_neg (F _ w8), if_pos (T _ (isw_ne w8 (b := 4) (by decide))), if_pos (T _ (isw_ne w8 (b := 6) (by decide))), if_pos (T _ (isw_ne w8 (b := 7) (by decide))), if_neg (F _ w8)]
      exact st_fin (over_so L) k σ
    · have z8 := Bool.eq_false_iff.mpr w8
      simp only [if_pos (T _ z8)]
      by_cases w9 : isw N B s (txW 9) = true
      · rw [if_neg (F _ w9), if_pos (T _ (isw_ne w9 (b := 4) (by decide))), if_pos (T _ (isw_ne w9 (b := 6) (by decide))), if_pos (T _ (isw_ne w9 (b := 7) (by decide))), if_neg (F _ w9)]
        exact st_fin (walk_so L) k σ
      · have z9 := Bool.eq_false_iff.mpr w9
        simp only [if_pos (T _ z9)]
        by_cases w10 : isw N B s (txW 10) = true
        · rw [if_neg (F _ w10), if_pos (T _ (isw_ne w10 (b := 4) (by decide))), if_pos (T _ (isw_ne w10 (b := 6) (by decide))), if_pos (T _ (isw_ne w10 (b := 7) (by decide))), if_neg (F _ w10)]
          have hS := offer_so L
          have e : ((fX2_readOffer j σ).bind fun q16 => if q16.1 = nI 0 then jX2_read_160 (nI k, σ) (nI 0) q16.2 else jX2_read_160 (nI k, σ) (nI 1) q16.2) = ((fX2_readOffer j σ).bind fun q => jX2_read_160 (nI k, σ) q.1 q.2) := by
            obtain ⟨σ2, μ2, a1, a2, a3, a4⟩ := hS
            rcases a4 with ⟨s2, ρ2, e1, -⟩ | ⟨w, e1, -⟩
            · rw [e1, Option.bind_some, Option.bind_some]
              try dsimp only
              rw [if_neg (by decide)]
            · rw [e1, Option.bind_some, Option.bind_some]
              try dsimp only
              rw [if_pos rfl]
          rw [e]
          exact st_fin hS k σ
        · have z10 := Bool.eq_false_iff.mpr w10
          simp only [if_pos (T _ z10)]
          by_cases w4 : isw N B s (txW 4) = true
          · rw [if_neg (F _ w4), if_neg (F _ w4)]
            exact st_fin (book_so L) k σ
          · have z4 := Bool.eq_false_iff.mpr w4
            rw [if_pos (T _ z4), if_pos (T _ z4)]
            by_cases w6 : isw N B s (txW 6) = true
            · rw [if_neg (F _ w6), if_neg (F _ w6)]
              exact st_fin (cancel_so L) k σ
            · have z6 := Bool.eq_false_iff.mpr w6
              rw [if_pos (T _ z6), if_pos (T _ z6)]
              by_cases w7 : isw N B s (txW 7) = true
              · rw [if_neg (F _ w7), if_neg (F _ w7)]
                exact st_fin (absent_so L) k σ
              · have z7 := Bool.eq_false_iff.mpr w7
                rw [if_pos (T _ z7), if_pos (T _ z7), must_N R2, Option.bind_some]
                unfold jX2_read_160 jX6_readStatement_213
                simp only [l_0]
                rw [if_neg (by decide), go_B (bad_s R2).1, Option.bind_some, st_9 R]
                exact Or.inr ⟨s, σ, _, rfl, rfl, (bad_s R2).1, FK_rfl σ, FY_M (FY_75 _)⟩
/-- what the loops of statements come to -/
def PL (j N : Nat) (B : Nat → Int32) (σ0 μ0 : Mem) (x : Mem ⊕ (Int32 × Mem)) (y : Mem) : Prop := (∃ σ2 s ρ, x = .inl σ2 ∧ LD σ2 y j N B s ρ ∧ FK j σ0 σ2 ∧ FM μ0 y) ∨ (∃ w σ2, x = .inr (nI w, σ2) ∧ Bad y w ∧ FK j σ0 σ2 ∧ FM μ0 y)
theorem stmts_2 (L : LD σ μ j N B s ρ) : ∃ x y, loop (stX2_read_15 j) 5000 (nI 0, σ) = some x ∧ loop stX6_load_43 5000 μ = some y ∧ PL j N B σ μ x y := by
  refine loop_two (I := fun k a b => a.1 = nI k ∧ ∃ s ρ, k ≤ s ∧ LD a.2 b j N B s ρ ∧ FK j σ a.2 ∧ FM μ b) 700 ?_ 5000 0 (nI 0, σ) μ (by omega) (by omega) ⟨rfl, s, ρ, by omega, L, FK_rfl σ, FM_rfl μ⟩
  rintro k ⟨a1, a2⟩ b hk ⟨e1, s, ρ, hs, L, FKa, FMa⟩
  try dsimp only at e1 L FKa
  subst e1
  have h4 := tkK_le N B s
  have hN := L.1.1.1
  have hsN := L.1.2.1
  by_cases h0 : tkK N B s = 0
  · refine Or.inr ⟨.inl a2, b, ?_, Or.inl ⟨a2, s, ρ, rfl, L, FKa, FMa⟩, Or.inl ?_⟩
    · unfold stX2_read_15
      try dsimp only
      rw [L.1.2.2.2.2.1, h0]
      by_cases q : (700 : Int32) ≤ nI k
      · rw [if_pos q]
      · rw [if_neg q, if_pos (show nI 0 = 0 from rfl)]
    · unfold stX6_load_43
      simp only [l_0]
      rw [well_Y L.2.1, Option.bind_some, if_neg (by decide), L.2.1.2.2.1.2.2.1, h0, if_pos rfl]
  · have hk7 : k < 700 := by
      by_cases q : s < N
      · omega
      · exact absurd (show tkK N B s = 0 by unfold tkK; rw [if_neg q]) h0
    have eB : stX6_load_43 b = (fX6_readStatement b).bind fun q4 => some (.inl q4) := by
      unfold stX6_load_43
      simp only [l_0]
      rw [well_Y L.2.1, Option.bind_some, if_neg (by decide), L.2.1.2.2.1.2.2.1, if_neg (nI_ne (by omega) (by omega) h0)]
    rcases stmt_2 L hk7 h0 with ⟨σ2, μ2, s2, ρ2, x1, x2, x3, x4, x5, x6⟩ | ⟨w, σ2, μ2, x1, x2, x3, x4, x5⟩
    · refine Or.inl ⟨hk7, (nI (k + 1), σ2), μ2, x1, ?_, rfl, s2, ρ2, by omega, x4, FK_tr FKa x5, FM_tr FMa x6⟩
      rw [eB, x2, Option.bind_some]
    · refine Or.inr ⟨.inr (nI w, σ2), μ2, x1, Or.inr ⟨w, σ2, rfl, x3, FK_tr FKa x4, FM_tr FMa x5⟩, Or.inr ⟨μ2, ?_, ?_⟩⟩
      · rw [eB, x2, Option.bind_some]
      · unfold stX6_load_43
        simp only [l_0]
        rw [well_N x3, Option.bind_some, if_pos rfl]
end
