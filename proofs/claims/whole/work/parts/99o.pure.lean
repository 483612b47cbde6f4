/-! layer 2: the pure statement -/
theorem plc_e : plc ρe = ((fun _ => 0), (fun _ => 0), (fun _ => 0)) := by
  have h : ∀ n, plN ρe n = ((fun _ => 0), (fun _ => 0), (fun _ => 0)) := by
    intro n
    induction n with
    | zero => rfl
    | succ n ih =>
      show plB ρe n (plN ρe n) (ρe 37) = _
      rw [ih] <;> rfl
  exact h 30
theorem In_start {μ1 : Mem} (C : Cur μ1 0 ρe) (h63 : rI μ1 63 0 0 = nI 0) (h64 : rI μ1 64 0 0 = nI 0) (h66 : rI μ1 66 0 0 = nI 0) (h67 : rI μ1 67 0 0 = -nI 1) (h69 : rI μ1 69 0 0 = nI 0) : InQ memS μ1 := by
  have p0 : rP memS 0 = 0 := rfl
  have p1 : rP memS 1 = 1 := rfl
  have z : ∀ k j r, k ≠ 1 → k ≠ 25 → k ≠ 26 → k ≠ 27 → rI memS k j r = nI 0 := by
    intro k j r z1 z2 z3 z4
    show (if k = 1 then (-1 : Int32) else if k = 25 then 60 else if k = 26 then 7 else if k = 27 then 10 else 0) = _
    rw [if_neg z1, if_neg z2, if_neg z3, if_neg z4] <;> rfl
  have b0 : ∀ n, bkd ρe n = 0 := fun n => rfl
  refine ⟨ρe, ⟨⟨by rw [p0]; omega, by rw [p1]; omega, by rw [p0, p1]; omega⟩, ?_, ?_, ?_⟩, C, ⟨ρe_WF.1, ρe_WF.2, by decide⟩, ⟨fun r hr => absurd hr (by simp [ρe]), fun b hb => absurd hb (by simp [ρe])⟩, ⟨0, 0, 0, fun _ => ρe, by omega, by omega, by omega, z 3 0 0 (by omega) (by omega) (by omega) (by omega), z 2 0 0 (by omega) (by omega) (by omega) (by omega), h63, h64, fun k hk => absurd hk (Nat.not_lt_zero _)⟩, ⟨0, by omega, z 7 0 0 (by omega) (by omega) (by omega) (by omega), h66, fun i hi => absurd hi (Nat.not_lt_zero _)⟩, ⟨?_, 0, by omega, z 4 0 0 (by omega) (by omega) (by omega) (by omega), h69, fun i hi => absurd hi (Nat.not_lt_zero _)⟩⟩
  · rw [p0]
    refine ⟨⟨?_, ?_, ?_, ?_, ?_, ?_, ?_, fun r hr => absurd hr (by simp [ρe]), fun b hb => absurd hb (by simp [ρe])⟩, fun b hb => absurd hb (by simp [ρe]), ⟨?_, fun k hk => absurd hk (by simp [ρe])⟩, fun n hn => ?_⟩
    · exact z 20 0 0 (by omega) (by omega) (by omega) (by omega)
    · exact z 21 0 0 (by omega) (by omega) (by omega) (by omega)
    · exact z 22 0 0 (by omega) (by omega) (by omega) (by omega)
    · exact z 24 0 0 (by omega) (by omega) (by omega) (by omega)
    · rfl
    · rfl
    · rfl
    · exact z 23 0 0 (by omega) (by omega) (by omega) (by omega)
    · rw [b0]; exact z 29 0 n (by omega) (by omega) (by omega) (by omega)
  · rw [plc_e]
    refine ⟨fun x hx => ⟨0, by omega, z 50 0 x (by omega) (by omega) (by omega) (by omega), fun n hn => ?_⟩, fun b hb => z 52 0 b (by omega) (by omega) (by omega) (by omega), fun i hi h => absurd rfl h⟩
    rw [Nat.zero_testBit] <;> rfl
  · refine ⟨fun x hx => absurd hx (by simp [ρe]), z 55 0 0 (by omega) (by omega) (by omega) (by omega), z 56 0 0 (by omega) (by omega) (by omega) (by omega)⟩
  · rw [h67] <;> rfl
theorem pure_holds : Pure := by
  intro L xs hL
  obtain ⟨μa, a1, a2, a3⟩ := begR_s (μ := memM)
  have zM : ∀ k j r, k ≠ 67 → rI memM k j r = nI 0 := by
    intro k j r z1
    show (if k = 67 then (-1 : Int32) else 0) = _
    rw [if_neg z1] <;> rfl
  obtain ⟨μ1, b1', b2, b3, b4, b5, b6, b7⟩ := keep_s (μ := μa) a2 (by rw [a3.1 62 0 0 (by omega)]; exact zM 62 0 0 (by omega))
  refine ⟨μa, μ1, fun σ μ _ => InQ σ μ, a1, b1', In_start b2 b3 b4 ?_ ?_ ?_, ?_⟩
  · rw [b7.1 66 0 0 (by omega), a3.1 66 0 0 (by omega)]; exact zM 66 0 0 (by omega)
  · rw [b7.1 67 0 0 (by omega), a3.1 67 0 0 (by omega)] <;> rfl
  · rw [b7.1 69 0 0 (by omega), a3.1 69 0 0 (by omega)]; exact zM 69 0 0 (by omega)
  · intro k σ μ ω hk hIn
    have g : ∀ d, d ≤ 6 → inb (nI (7 * k) + nI d) L := fun d hd => by
      rw [nI_add]
      exact inb_n (by omega) (by omega)
    obtain ⟨q, h1, h2⟩ := law_all (xs := xs) (L := L) (i := nI (7 * k)) (ω := ω) hIn (g 1 (by omega)) (g 2 (by omega)) (g 3 (by omega)) (g 4 (by omega)) (g 5 (by omega)) (g 6 (by omega)) (xs (7 * k) &&& 63).toBitVec.toNat
    exact ⟨q, h1, h2⟩
