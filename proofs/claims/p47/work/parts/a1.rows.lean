/-! p47, layer 2: the law's own questions, over a row that holds what the cells say -/
def RQ (xs : Nat → Int32) (L : Nat) (ρ : RwQ) : Prop := ρ 4 = qR xs L ∧ ρ 37 = qB xs L ∧ (∀ i, i < 4 → ρ i = qS xs L i) ∧ (∀ r w, r < ρ 4 → w < 4 → rmv ρ r w = qM xs L r w) ∧ (∀ b w, b < ρ 37 → w < 7 → bkv ρ b w = qK xs L b w)
section
variable {xs : Nat → Int32} {L : Nat} {ρ : RwQ}
theorem RQ_le (Q : RQ xs L ρ) : (1 ≤ ρ 4 ∧ ρ 4 ≤ 4) ∧ ρ 37 ≤ 7 := by
  obtain ⟨q1, q2, -⟩ := Q
  rw [q1, q2]
  exact ⟨qR_rng, qB_rng⟩
theorem RQ_rm (Q : RQ xs L ρ) {r : Nat} (hr : r < ρ 4) : rmv ρ r 0 ≤ 2 ∧ (1 ≤ rmv ρ r 1 ∧ rmv ρ r 1 ≤ 5) ∧ rmv ρ r 2 ≤ 18 ∧ (5 ≤ rmv ρ r 3 ∧ rmv ρ r 3 ≤ 64) := by
  obtain ⟨-, -, -, q4, -⟩ := Q
  rw [q4 r 0 hr (by omega), q4 r 1 hr (by omega), q4 r 2 hr (by omega), q4 r 3 hr (by omega)]
  exact qM_rng r
theorem RQ_bk (Q : RQ xs L ρ) {b : Nat} (hb : b < ρ 37) : bkv ρ b 0 < 30 ∧ (1 ≤ bkv ρ b 1 ∧ bkv ρ b 1 ≤ 8 ∧ bkv ρ b 0 + bkv ρ b 1 ≤ 30) ∧ bkv ρ b 2 ≤ 3 ∧ (bkv ρ b 3 ≤ 4 ∧ 1 ≤ prs ρ b ∧ prs ρ b ≤ 6) ∧ bkv ρ b 4 < 30 ∧ bkv ρ b 5 ≤ 100 ∧ bkv ρ b 6 ≤ 1 := by
  obtain ⟨-, -, -, -, q5⟩ := Q
  unfold prs
  rw [q5 b 0 hb (by omega), q5 b 1 hb (by omega), q5 b 2 hb (by omega), q5 b 3 hb (by omega), q5 b 4 hb (by omega), q5 b 5 hb (by omega), q5 b 6 hb (by omega)]
  exact qK_rng b
theorem RQ_st (Q : RQ xs L ρ) : ρ 0 < 40 ∧ ρ 1 < 200 ∧ (2 ≤ ρ 2 ∧ ρ 2 ≤ 11) ∧ ρ 3 ≤ 50 := by
  obtain ⟨-, -, q3, -⟩ := Q
  rw [q3 0 (by omega), q3 1 (by omega), q3 2 (by omega), q3 3 (by omega)]
  exact qS_rng
theorem roomsR_h (hL : L ≤ 260) (Q : RQ xs L ρ) : fL_roomsOf xs L = some (nI (ρ 4)) := by
  rw [roomsOf_h hL, Q.1]
theorem booksR_h (hL : L ≤ 260) (Q : RQ xs L ρ) : fL_bookingsOf xs L = some (nI (ρ 37)) := by
  rw [bookingsOf_h hL, Q.2.1]
theorem setR_h (hL : L ≤ 260) (Q : RQ xs L ρ) {i : Nat} (hi : i < 4) : fL_setting xs L (nI i) = some (nI (ρ i)) := by
  rw [setting_h hL hi, Q.2.2.1 i hi]
theorem roomR_h (hL : L ≤ 260) (Q : RQ xs L ρ) {r i : Nat} (hr : r < ρ 4) (hi : i < 4) : fL_room xs L (nI r) (nI i) = some (nI (rmv ρ r i)) := by
  have := RQ_le Q
  rw [room_h hL (by omega) hi, Q.2.2.2.1 r i hr hi]
theorem bookR_h (hL : L ≤ 260) (Q : RQ xs L ρ) {b i : Nat} (hb : b < ρ 37) (hi : i < 7) : fL_booking xs L (nI b) (nI i) = some (nI (bkv ρ b i)) := by
  have := RQ_le Q
  rw [booking_h hL (by omega) hi, Q.2.2.2.2 b i hb hi]
theorem people_h (hL : L ≤ 260) (Q : RQ xs L ρ) {b : Nat} (hb : b < ρ 37) : fL_people xs L (nI b) = some (nI (prs ρ b)) := by
  unfold fL_people
  rw [show (2 : Int32) = nI 2 from rfl, bookR_h hL Q hb (by omega), Option.bind_some, show (3 : Int32) = nI 3 from rfl, bookR_h hL Q hb (by omega), Option.bind_some, nI_add]
  rfl
theorem isIn_h (hL : L ≤ 260) (Q : RQ xs L ρ) {b n : Nat} (hb : b < ρ 37) (hn : n < 100) : fL_isIn xs L (nI b) (nI n) = some (nI (b1 (staysQ ρ b n))) := by
  have hk := RQ_bk Q hb
  unfold fL_isIn jL_isIn_31
  rw [show (0 : Int32) = nI 0 from rfl, bookR_h hL Q hb (by omega), Option.bind_some, show (1 : Int32) = nI 1 from rfl, bookR_h hL Q hb (by omega), Option.bind_some, Option.bind_some, nI_add]
  unfold staysQ b1
  by_cases h : n < bkv ρ b 0
  · rw [if_pos ((nI_ltI (by omega) (by omega)).mpr h), if_neg (by simp; omega)]
  · rw [if_neg (fun q => h ((nI_ltI (by omega) (by omega)).mp q))]
    by_cases h2 : bkv ρ b 0 + bkv ρ b 1 ≤ n
    · rw [if_pos ((nI_leI (by omega) (by omega)).mpr h2), if_neg (by simp; omega)]
    · rw [if_neg (fun q => h2 ((nI_leI (by omega) (by omega)).mp q)), if_pos (by simp; omega)]
theorem nI_z (a : Nat) : nI a + (0 : Int32) = nI (a + 0) := nI_add _ _
theorem b1_0 {p : Bool} : nI (b1 p) = (0 : Int32) ↔ p = false := by cases p <;> decide
theorem beds_h (hL : L ≤ 260) (Q : RQ xs L ρ) : fL_beds xs L = some (nI (allB ρ)) := by
  have hl := RQ_le Q
  unfold fL_beds
  have e : loop (stL_beds_4 xs L) 5000 ((0 : Int32), (0 : Int32)) = some (nI (allB ρ)) := by
    refine loop_st (ρ 4) (fun k => (nI (sumNQ (fun r => rmv ρ r 1) k), nI k)) (by omega) rfl (fun k hk => ?_) ?_
    · unfold stL_beds_4
      rw [roomsR_h hL Q, Option.bind_some, if_neg (fun q => by have := (nI_leI (by omega) (by omega)).mp q; omega), show (1 : Int32) = nI 1 from rfl, roomR_h hL Q hk (by omega), Option.bind_some, nI_add, nI_add]
      rfl
    · unfold stL_beds_4
      rw [roomsR_h hL Q, Option.bind_some, if_pos (Int32.le_refl _)]
      rfl
  rw [e, Option.bind_some]
/-- how many are booked, by the law's own list of who is accepted -/
def abT (ρ : RwQ) (ac : Nat → Int32) (n b : Nat) : Nat := if ac b ≠ 0 ∧ staysQ ρ b n = true then prs ρ b else 0
theorem abS_le (Q : RQ xs L ρ) {ac : Nat → Int32} {n k : Nat} (hk : k ≤ ρ 37) : sumNQ (abT ρ ac n) k ≤ 42 := by
  have hl := RQ_le Q
  have := sumN_le (f := abT ρ ac n) (c := 6) (n := k) (fun b hb => by
    have := RQ_bk Q (b := b) (by omega)
    unfold abT
    split <;> omega)
  omega
theorem booked_h (hL : L ≤ 260) (Q : RQ xs L ρ) (ac : Nat → Int32) {n : Nat} (hn : n < 30) : fL_booked xs L (nI n) ac = some (nI (sumNQ (abT ρ ac n) (ρ 37))) := by
  have hl := RQ_le Q
  unfold fL_booked
  have e : loop (stL_booked_5 xs L ac (nI n)) 5000 ((0 : Int32), (0 : Int32)) = some (nI (sumNQ (abT ρ ac n) (ρ 37))) := by
    refine loop_st (ρ 37) (fun k => (nI (sumNQ (abT ρ ac n) k), nI k)) (by omega) rfl (fun k hk => ?_) ?_
    · unfold stL_booked_5
      rw [booksR_h hL Q, Option.bind_some, if_neg (fun q => by have := (nI_leI (by omega) (by omega)).mp q; omega)]
      try dsimp only
      rw [gd_inb (by omega) (by omega), nI_clamp (by omega), isIn_h hL Q hk (by omega), Option.bind_some, people_h hL Q hk, Option.bind_some]
      unfold jL_booked_41 jL_booked_42
      have es : sumNQ (abT ρ ac n) (k + 1) = sumNQ (abT ρ ac n) k + abT ρ ac n k := rfl
      have g1 : nI k + (1 : Int32) = nI (k + 1) := nI_add _ _
      rw [es, g1]
      unfold abT
      by_cases h : ac k = 0
      · rw [if_pos h, if_neg (fun q => q.1 h)]
        try dsimp only
        rw [nI_z]
      · rw [if_neg h]
        cases h2 : staysQ ρ k n
        · rw [if_pos (b1_0.mpr rfl), if_neg (fun q => Bool.noConfusion q.2)]
          try dsimp only
          rw [nI_z]
        · rw [if_neg (fun q => Bool.noConfusion (b1_0.mp q)), if_pos ⟨h, rfl⟩]
          try dsimp only
          rw [nI_add]
    · unfold stL_booked_5
      rw [booksR_h hL Q, Option.bind_some, if_pos (Int32.le_refl _)]
  rw [e, Option.bind_some]
end
