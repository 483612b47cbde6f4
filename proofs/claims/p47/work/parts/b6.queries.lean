/-! p47, layer 2: the class's answers over a row -/
section
variable {σ : Mem} {ρ : RwQ}
theorem q_count0 (h1 : I1 σ ρ) : fX5_count (0 : Int32) σ = some (.inl (nI (ρ 4))) := by
  have hlt := I1_lt h1
  unfold fX5_count
  rw [if_pos rfl, gd_pos hlt, h1.2.1.1.1]
theorem q_count1 (h1 : I1 σ ρ) : fX5_count (1 : Int32) σ = some (.inl (nI (allB ρ))) := by
  have hlt := I1_lt h1
  unfold fX5_count
  rw [if_neg (by decide), if_pos rfl, gd_pos hlt, h1.2.1.1.2.1]
theorem q_count3 (h1 : I1 σ ρ) (h3 : I3 ρ) : fX5_count (3 : Int32) σ = some (.inl (nI (sumNQ (fun b => b1 (decide (bkv ρ b 8 = 0))) (ρ 37)))) := by
  have hlt := I1_lt h1
  unfold fX5_count
  rw [if_neg (by decide), if_neg (by decide), if_neg (by decide), if_pos rfl, gd_pos hlt, show fX1_countState (rP σ 0) (0 : Int32) σ = _ from countState_h (v := 0) h1.2.1 h3.1 (by omega)]
  rfl
theorem q_setting (h1 : I1 σ ρ) {i : Nat} (hi : i < 4) : fX5_setting (nI i) σ = some (.inl (nI (ρ i))) := by
  have hlt := I1_lt h1
  obtain ⟨-, ⟨⟨-, -, -, a0, a1, a2, a3, -, -⟩, -⟩, -⟩ := h1
  unfold fX5_setting
  match i, hi with
  | 0, _ => rw [if_pos (by decide), gd_pos hlt, a0]
  | 1, _ => rw [if_neg (by decide), if_pos (by decide), gd_pos hlt, a1]
  | 2, _ => rw [if_neg (by decide), if_neg (by decide), if_pos (by decide), gd_pos hlt, a2]
  | 3, _ => rw [if_neg (by decide), if_neg (by decide), if_neg (by decide), if_pos (by decide), gd_pos hlt, a3]
theorem q_room (h1 : I1 σ ρ) (h3 : I3 ρ) {r w : Nat} (hr : r < ρ 4) (hw : w < 4) : fX5_room (nI r) (nI w) σ = some (.inl (nI (rmv ρ r w))) := by
  have hlt := I1_lt h1
  have h8 := h3.1.1
  obtain ⟨a0, a1, a2, a3⟩ := h1.2.1.1.2.2.2.2.2.2.2.1 r hr
  unfold fX5_room
  rw [chkR_Y h1 h3 hr, Option.bind_some, Sum.elim_inl, gd_pos hlt, gd_inb (by omega) (by omega), nI_clamp (by omega)]
  match w, hw with
  | 0, _ => rw [if_pos (by decide), a0]
  | 1, _ => rw [if_neg (by decide), if_pos (by decide), a1]
  | 2, _ => rw [if_neg (by decide), if_neg (by decide), if_pos (by decide), a2]
  | 3, _ => rw [if_neg (by decide), if_neg (by decide), if_neg (by decide), if_pos (by decide), a3]
theorem q_booking (h1 : I1 σ ρ) (h3 : I3 ρ) {b w : Nat} (hb : b < ρ 37) (hw : w < 7) : fX5_booking (nI b) (nI w) σ = some (.inl (nI (bkv ρ b w))) := by
  have hlt := I1_lt h1
  have h17 := h3.2.2
  obtain ⟨b0, b1, b2, b3, b4, b5, b6, b7, b8⟩ := h1.2.1.1.2.2.2.2.2.2.2.2 b hb
  have w6 := (h3.1.2.2.2.2 b hb).2.2.2.2.2.1
  unfold fX5_booking
  rw [chkB_Y h1 h3 hb, Option.bind_some, Sum.elim_inl, gd_pos hlt, gd_inb (by omega) (by omega), nI_clamp (by omega)]
  match w, hw with
  | 0, _ => rw [if_pos (by decide), b0]
  | 1, _ => rw [if_neg (by decide), if_pos (by decide), b1]
  | 2, _ => rw [if_neg (by decide), if_neg (by decide), if_pos (by decide), b2]
  | 3, _ => rw [if_neg (by decide), if_neg (by decide), if_neg (by decide), if_pos (by decide), b3]
  | 4, _ => rw [if_neg (by decide), if_neg (by decide), if_neg (by decide), if_neg (by decide), if_pos (by decide), b5]
  | 5, _ => rw [if_neg (by decide), if_neg (by decide), if_neg (by decide), if_neg (by decide), if_neg (by decide), if_pos (by decide), b6]
  | 6, _ =>
    rw [if_neg (by decide), if_neg (by decide), if_neg (by decide), if_neg (by decide), if_neg (by decide), if_neg (by decide), if_pos (by decide), b7]
    have : bkv ρ b 6 = 0 ∨ bkv ρ b 6 = 1 := by omega
    rcases this with e | e
    · rw [e, if_pos (by decide)] <;> rfl
    · rw [e, if_neg (by decide)] <;> rfl
theorem q_book8 (h1 : I1 σ ρ) (h3 : I3 ρ) {b : Nat} (hb : b < ρ 37) : fX5_booking (nI b) (8 : Int32) σ = some (.inr 2) := by
  have hlt := I1_lt h1
  have h17 := h3.2.2
  unfold fX5_booking
  rw [chkB_Y h1 h3 hb, Option.bind_some, Sum.elim_inl, gd_pos hlt, gd_inb (by omega) (by omega), if_neg (by decide), if_neg (by decide), if_neg (by decide), if_neg (by decide), if_neg (by decide), if_neg (by decide), if_neg (by decide), if_neg (by decide)]
theorem q_bookN (h1 : I1 σ ρ) (h3 : I3 ρ) {p p2 : Int32} (hp : ¬ ∃ b, b < ρ 37 ∧ p = nI b) : fX5_booking p p2 σ = some (.inr 3) := by
  unfold fX5_booking
  rw [chkB_N h1 h3 hp, Option.bind_some, Sum.elim_inr]
theorem q_state (h1 : I1 σ ρ) (h3 : I3 ρ) {b : Nat} (hb : b < ρ 37) : fX5_state (nI b) σ = some (.inl (nI (bkv ρ b 8))) := by
  have hlt := I1_lt h1
  have h17 := h3.2.2
  unfold fX5_state
  rw [chkB_Y h1 h3 hb, Option.bind_some, Sum.elim_inl, gd_pos hlt, gd_inb (by omega) (by omega), nI_clamp (by omega), h1.2.1.2.1 b hb]
theorem q_waiting (h1 : I1 σ ρ) (h3 : I3 ρ) {k : Nat} (hk : k < ρ 191) : fX5_waiting (nI k) σ = some (.inl (nI (lstQ ρ k))) := by
  have hlt := I1_lt h1
  have h16 := h3.2.1.2.1
  unfold fX5_waiting
  rw [if_neg (show ¬ nI k < (0 : Int32) from nlt0 (by omega)), gd_pos hlt, h1.2.1.2.2.1.1, if_pos (nI_lt hk (by omega)), gd_inb (by omega) (by omega), nI_clamp (by omega), h1.2.1.2.2.1.2 k hk]
theorem q_placed (h1 : I1 σ ρ) (h3 : I3 ρ) {b : Nat} (hb : b < ρ 37) : fX5_placed (nI b) σ = some (.inl (nI ((plc ρ).2.1 b))) := by
  have h17 := h3.2.2
  unfold fX5_placed
  rw [chkB_Y h1 h3 hb, Option.bind_some, Sum.elim_inl, gd_inb (by omega) (by omega), nI_clamp (by omega), h1.2.2.1.2.1 b (by omega)]
theorem q_roomsOf (h1 : I1 σ ρ) (h3 : I3 ρ) {b : Nat} (hb : b < ρ 37) : fX5_roomsOf (nI b) σ = some (.inl (nI (rbO ρ (plc ρ) b))) := by
  have h17 := h3.2.2
  unfold fX5_roomsOf
  rw [chkB_Y h1 h3 hb, Option.bind_some, Sum.elim_inl, gd_inb (by omega) (by omega), nI_clamp (by omega), (h1.2.2.2.1 b hb).1]
theorem q_pays (h1 : I1 σ ρ) (h3 : I3 ρ) {b : Nat} (hb : b < ρ 37) : fX5_pays (nI b) σ = some (.inl (nI (pdB ρ (plc ρ) b))) := by
  have h17 := h3.2.2
  unfold fX5_pays
  rw [chkB_Y h1 h3 hb, Option.bind_some, Sum.elim_inl, gd_inb (by omega) (by omega), nI_clamp (by omega), (h1.2.2.2.1 b hb).2]
theorem q_net (h1 : I1 σ ρ) : fX5_net σ = some (netV ρ) := by
  unfold fX5_net netV
  rw [h1.2.2.2.2.1, h1.2.2.2.2.2]
theorem q_booked (h1 : I1 σ ρ) {n : Nat} (hn : n < 30) : fX5_booked (nI n) σ = some (.inl (nI (bkd ρ n))) := by
  have hlt := I1_lt h1
  unfold fX5_booked
  rw [chkN_Y hn, Option.bind_some, Sum.elim_inl, gd_pos hlt, gd_inb (by omega) (by omega), nI_clamp (by omega), h1.2.1.2.2.2 n hn]
theorem q_occupied (h1 : I1 σ ρ) (h3 : I3 ρ) {n : Nat} (hn : n < 30) : fX5_occupied (nI n) σ = some (.inl (nI (sumNQ (fun r => tkN (plc ρ).1 r n) (ρ 4)))) := by
  unfold fX5_occupied
  rw [chkN_Y hn, Option.bind_some, Sum.elim_inl, takenBeds_h h1 h3 hn, Option.bind_some]
theorem q_occupant (h1 : I1 σ ρ) (h3 : I3 ρ) {r d n : Nat} (hr : r < ρ 4) (hd : d < rmv ρ r 1) (hn : n < 30) : fX5_occupant (nI r) (nI d) (nI n) σ = some (.inl (mI ((plc ρ).1 (30 * (10 * r + d) + n)))) := by
  have h8 := h3.1.1
  have h17 := h3.2.2
  have hlt := I1_lt h1
  have h10 := (h3.1.2.2.2.1 r hr).2.1.2
  have hle := fstN_le (ocP ρ (10 * r + d) n) (ρ 37)
  have hstep : ∀ k, k < ρ 37 → stX5_occupant_21 σ (nI n) (nI r) (nI d) (nI k) = if ocP ρ (10 * r + d) n k = true then some (.inr (.inr (.inl (nI k)))) else some (.inl (nI (k + 1))) := by
    intro k hk
    have hBk := h1.2.1.1.2.2.2.2.2.2.2.2 k hk
    have hw := h3.1.2.2.2.2 k hk
    unfold stX5_occupant_21 jX5_occupant_80 ocP
    simp only [l_0, l_1, l_10]
    rw [gd_pos hlt, h1.2.1.1.2.2.1, if_neg (nI_ge hk (by omega)), gd_inb (by omega) (by omega), nI_clamp (by omega), staysB_h hBk hw (by omega), Option.bind_some]; simp (disch := omega) only [b1_z]; rw [hBk.2.2.2.2.1]
    simp only [pk_mul, nI_add]
    rw [Nat.mul_comm r 10, hasBed_h h1 h3 hk (by omega), Option.bind_some]; simp (disch := omega) only [b1_z]
    cases staysQ ρ k n
    · rw [if_pos rfl, Bool.false_and, if_neg (by decide)]
    · rw [if_neg (by decide), Bool.true_and]
      cases hbB ρ k (10 * r + d)
      · rw [if_pos rfl, if_neg (by decide)]
      · rw [if_neg (by decide), if_pos rfl]
  have e : loop (stX5_occupant_21 σ (nI n) (nI r) (nI d)) 5000 (nI 0) = some (if fstN (ocP ρ (10 * r + d) n) (ρ 37) < ρ 37 then .inr (.inl (nI (fstN (ocP ρ (10 * r + d) n) (ρ 37)))) else .inl ()) := by
    refine loop_st (fstN (ocP ρ (10 * r + d) n) (ρ 37)) (fun k => nI k) (by omega) rfl ?_ ?_
    · intro k hk
      show stX5_occupant_21 _ _ _ _ (nI k) = _
      rw [hstep k (by omega), if_neg (by rw [fstN_no hk]; decide)]
    · show stX5_occupant_21 _ _ _ _ (nI (fstN (ocP ρ (10 * r + d) n) (ρ 37))) = _
      by_cases hf : fstN (ocP ρ (10 * r + d) n) (ρ 37) < ρ 37
      · rw [hstep _ hf, if_pos (fstN_yes hf), if_pos hf]
      · have hf2 : fstN (ocP ρ (10 * r + d) n) (ρ 37) = ρ 37 := by omega
        rw [hf2, if_neg (Nat.lt_irrefl _)]
        unfold stX5_occupant_21
        rw [gd_pos hlt, h1.2.1.1.2.2.1]
        exact if_pos (nI_le (Nat.le_refl _) (by omega))
  unfold fX5_occupant
  simp only [l_0, l_1]
  rw [chkBed_Y h1 h3 hr hd, Option.bind_some, Sum.elim_inl, chkN_Y hn, Option.bind_some, Sum.elim_inl, e, Option.bind_some, ← occ_val h3 hn]
  by_cases hf : fstN (ocP ρ (10 * r + d) n) (ρ 37) < ρ 37
  · rw [if_pos hf, if_pos hf] <;> rfl
  · rw [if_neg hf, if_neg hf] <;> rfl
theorem q_fullE {σ : Mem} (h1 : I1 σ ρe) : fX5_fullNights σ = some (nI 0) := by
  have hlt := I1_lt h1
  have e : loop (stX5_fullNights_4 σ) 5000 (nI 0, nI 0) = some (nI 0) := by
    refine loop_st 30 (fun k => (nI 0, nI k)) (by omega) rfl ?_ ?_
    · intro k hk
      unfold stX5_fullNights_4 jX5_fullNights_38
      try dsimp only
      simp only [l_0, l_1, l_30]
      rw [if_neg (nI_ge hk (by omega)), gd_pos hlt, h1.2.1.1.1, if_pos (by decide), nI_add]
    · unfold stX5_fullNights_4
      try dsimp only
      simp only [l_30]
      rw [if_pos (nI_le (Nat.le_refl _) (by omega))]
  unfold fX5_fullNights
  simp only [l_0]
  rw [e] <;> rfl
/-- the bed of a person: it is there, or the group has none, or there is no such person -/
theorem q_bedP (h1 : I1 σ ρ) (h3 : I3 ρ) {b p : Nat} (hb : b < ρ 37) (hp : p < prs ρ b) (hh : hasB (plc ρ) b = true) : ∃ x, (plc ρ).2.2 (12 * b + p) = x + 1 ∧ x < 80 ∧ fX5_roomOf (nI b) (nI p) σ = some (.inl (nI (x / 10))) ∧ fX5_bedOf (nI b) (nI p) σ = some (.inl (nI (x % 10))) := by
  have h17 := h3.2.2
  have hp12 := (WF_prs h3.1 hb).2
  rcases bedOfP_h h1 h3 (nI b) (nI p) with ⟨b2, p2, hb2, hp2, e1, e2, h⟩ | ⟨h, -⟩
  · have hbe : b = b2 := nI_inj (by omega) (by omega) e1
    subst hbe
    have hpe : p = p2 := nI_inj (by omega) (by have := (WF_prs h3.1 hb2).2; omega) e2
    subst hpe
    rcases h with ⟨-, x, x1, x2, x3⟩ | ⟨h, -⟩
    · refine ⟨x, x1, x2, ?_, ?_⟩
      · unfold fX5_roomOf
        rw [x3, Option.bind_some, Sum.elim_inl, show nI x / (10 : Int32) = nI (x / 10) from pk_div (d := 10) (by omega) (by omega) (by omega)]
      · unfold fX5_bedOf
        rw [x3, Option.bind_some, Sum.elim_inl, show nI x - nI x / (10 : Int32) * (10 : Int32) = nI (x % 10) from pk_rem (d := 10) (by omega) (by omega) (by omega)]
    · rw [hh] at h; cases h
  · exact absurd ⟨b, p, hb, hp, rfl, rfl⟩ h
theorem q_bedW (h1 : I1 σ ρ) (h3 : I3 ρ) {b p : Nat} (hb : b < ρ 37) (hp : p < prs ρ b) (hh : hasB (plc ρ) b = false) : fX5_bedOf (nI b) (nI p) σ = some (.inr 4) := by
  have h17 := h3.2.2
  have hp12 := (WF_prs h3.1 hb).2
  rcases bedOfP_h h1 h3 (nI b) (nI p) with ⟨b2, p2, hb2, hp2, e1, e2, h⟩ | ⟨h, -⟩
  · have hbe : b = b2 := nI_inj (by omega) (by omega) e1
    subst hbe
    rcases h with ⟨h, -⟩ | ⟨-, h⟩
    · rw [hh] at h; cases h
    · unfold fX5_bedOf
      rw [h, Option.bind_some, Sum.elim_inr]
  · exact absurd ⟨b, p, hb, hp, rfl, rfl⟩ h
theorem q_bedN (h1 : I1 σ ρ) (h3 : I3 ρ) {p1 p2 : Int32} (hn : ¬ ∃ b p, b < ρ 37 ∧ p < prs ρ b ∧ p1 = nI b ∧ p2 = nI p) : fX5_bedOf p1 p2 σ = some (.inr 3) := by
  rcases bedOfP_h h1 h3 p1 p2 with ⟨b, p, hb, hp, e1, e2, -⟩ | ⟨-, h⟩
  · exact absurd ⟨b, p, hb, hp, e1, e2⟩ hn
  · unfold fX5_bedOf
    rw [h, Option.bind_some, Sum.elim_inr]
end
