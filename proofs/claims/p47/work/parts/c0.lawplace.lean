/-! p47, layer 2: the law's own placing, to the same spec -/
def HD (hd : Nat → Nat → Int32) (h : RwQ) : Prop := ∀ x n, x < 40 → n < 30 → hd x n = nI (h (30 * x + n))
theorem mI_1 (v : Nat) : mI v + (1 : Int32) = nI v := by
  cases v with
  | zero => rw [mI_0]; decide
  | succ n =>
    rw [mI_s]
    exact nI_add n 1
theorem pc_bits : ∀ S, S < 256 → fJ6_bitCount_0f7a4 (nI S) = some (nI (pc S)) := by decide +kernel
section
variable {xs : Nat → Int32} {L : Nat} {ρ h : RwQ} {hd : Nat → Nat → Int32} {b : Nat}
theorem isFree_l (hL : L ≤ 260) (Q : RQ xs L ρ) (H : HD hd h) (hh : ∀ i, h i ≤ 17) (hb : b < ρ 37) {x : Nat} (hx : x < 40) : fL_isFree xs L (nI b) (nI x) hd = some (nI (b1 (freeB ρ h b x))) := by
  have hstep : ∀ k, k < 30 → stL_isFree_3 xs L (nI b) (nI x) hd (nI k) = if bsy ρ h b x k = true then some (.inr (.inr (nI 0))) else some (.inl (nI (k + 1))) := by
    intro k hk
    have e2 := hh (30 * x + k)
    unfold stL_isFree_3
    rw [if_neg (show ¬ (30 : Int32) ≤ nI k from fun z => by have := (nI_leI (a := 30) (by omega) (by omega)).mp z; omega), isIn_h hL Q hb (by omega), Option.bind_some, gd_inb (by omega) (by omega), gd_inb (by omega) (by omega), nI_clamp (by omega), nI_clamp (by omega), H x k hx hk, show nI k + (1 : Int32) = nI (k + 1) from nI_add _ _]
    unfold bsy
    cases hs : staysQ ρ b k
    · rw [if_pos (b1_0.mpr rfl), Bool.false_and, if_neg (by decide)]
    · rw [if_neg (fun z => Bool.noConfusion (b1_0.mp z)), Bool.true_and]
      by_cases hc : h (30 * x + k) = 0
      · rw [hc, if_pos (show nI 0 = (0 : Int32) from rfl), if_neg (by decide)]
      · rw [if_neg (show ¬ nI (h (30 * x + k)) = (0 : Int32) from nI_ne (b := 0) (by omega) (by omega) hc), if_pos (decide_eq_true hc)]
        rfl
  have e : loop (stL_isFree_3 xs L (nI b) (nI x) hd) 5000 (nI 0) = some (if freeB ρ h b x = true then .inl () else .inr (nI 0)) := by
    have hle := fstN_le (bsy ρ h b x) 30
    refine loop_st (fstN (bsy ρ h b x) 30) (fun k => nI k) (by omega) rfl ?_ ?_
    · intro k hk
      show stL_isFree_3 _ _ _ _ _ (nI k) = _
      rw [hstep k (by omega), if_neg (by rw [fstN_no hk]; decide)]
    · show stL_isFree_3 _ _ _ _ _ (nI (fstN (bsy ρ h b x) 30)) = _
      by_cases hf : fstN (bsy ρ h b x) 30 = 30
      · rw [hf, if_pos (freeB_bsy.mpr hf)]
        unfold stL_isFree_3
        exact if_pos (by decide)
      · rw [hstep _ (by omega), if_pos (fstN_yes (by omega)), if_neg (fun q => hf (freeB_bsy.mp q))]
  unfold fL_isFree
  rw [show loop (stL_isFree_3 xs L (nI b) (nI x) hd) 5000 (0 : Int32) = _ from e, Option.bind_some]
  cases freeB ρ h b x <;> rfl
theorem free_l (hL : L ≤ 260) (Q : RQ xs L ρ) (H : HD hd h) (hh : ∀ i, h i ≤ 17) (hb : b < ρ 37) {r : Nat} (hr : r < ρ 4) : fL_free xs L (nI b) (nI r) hd = some (nI (freeC ρ h b r)) := by
  have hl := RQ_le Q
  have hm := RQ_rm Q hr
  have e : loop (stL_free_6 xs L (nI r) (nI b) hd) 5000 ((0 : Int32), (0 : Int32)) = some (nI (freeC ρ h b r)) := by
    refine loop_st (rmv ρ r 1) (fun k => (nI (sumNQ (fun d => b1 (freeB ρ h b (10 * r + d))) k), nI k)) (by omega) rfl ?_ ?_
    · intro k hk
      unfold stL_free_6 jL_free_40
      try dsimp only
      rw [show fL_room xs L (nI r) (1 : Int32) = some (nI (rmv ρ r 1)) from roomR_h hL Q hr (i := 1) (by omega), Option.bind_some, if_neg (nI_ge hk (by omega)), show ((10 : Int32) * nI r) + nI k = nI (10 * r + k) by rw [show (10 : Int32) = nI 10 from rfl, pk_mul, nI_add], isFree_l hL Q H hh hb (by omega), Option.bind_some, show nI k + (1 : Int32) = nI (k + 1) from nI_add _ _]
      show _ = some (Sum.inl (nI (sumNQ _ k + b1 (freeB ρ h b (10 * r + k))), nI (k + 1)))
      cases freeB ρ h b (10 * r + k)
      · rw [if_pos (b1_0.mpr rfl), nI_z] <;> rfl
      · rw [if_neg (fun z => Bool.noConfusion (b1_0.mp z)), show nI (sumNQ (fun d => b1 (freeB ρ h b (10 * r + d))) k) + (1 : Int32) = nI (sumNQ (fun d => b1 (freeB ρ h b (10 * r + d))) k + 1) from nI_add _ _] <;> rfl
    · unfold stL_free_6
      try dsimp only
      rw [show fL_room xs L (nI r) (1 : Int32) = some (nI (rmv ρ r 1)) from roomR_h hL Q hr (i := 1) (by omega), Option.bind_some, if_pos (nI_le (Nat.le_refl _) (by omega))] <;> rfl
  unfold fL_free
  rw [e] <;> rfl
def okF (ρ : RwQ) (b r : Nat) : Bool := canU ρ b r && tkA ρ b r
def kyO (ρ h : RwQ) (b : Nat) (r : Nat) : Nat := (freeC ρ h b r * 1000 + rmv ρ r 3) * 10 + r
theorem oneRoom_l (hL : L ≤ 260) (Q : RQ xs L ρ) (H : HD hd h) (hh : ∀ i, h i ≤ 17) (hb : b < ρ 37) : fL_oneRoom xs L (nI b) hd = some (nI (orR ρ h b)) := by
  have hl := RQ_le Q
  have hB := RQ_bk Q hb
  have e : loop (stL_oneRoom_8 xs L (nI b) hd) 5000 ((-1 : Int32), (0 : Int32), (0 : Int32)) = some (mI (orR ρ h b)) := by
    refine loop_st (ρ 4) (fun k => (mI (orS ρ h b k), nI (if orS ρ h b k = 0 then 0 else kyO ρ h b (orS ρ h b k - 1)), nI k)) (by omega) (by show _ = (mI 0, nI 0, nI 0); rw [mI_0] <;> rfl) ?_ ?_
    · intro k hk
      have hm := RQ_rm Q hk
      have hle := orS_le (ρ := ρ) (h := h) (b := b) k
      have hfk := freeC_le (ρ := ρ) (h := h) (b := b) (r := k)
      have eS : orS ρ h b (k + 1) = if fitR ρ h b k = true ∧ btr ρ h b (orS ρ h b k) k = true then k + 1 else orS ρ h b k := rfl
      have ek : nI k + (1 : Int32) = nI (k + 1) := nI_add _ _
      have hno : ¬ (fitR ρ h b k = true ∧ btr ρ h b (orS ρ h b k) k = true) → some (Sum.inl (mI (orS ρ h b k), nI (if orS ρ h b k = 0 then 0 else kyO ρ h b (orS ρ h b k - 1)), nI (k + 1))) = (some (Sum.inl (mI (orS ρ h b (k + 1)), nI (if orS ρ h b (k + 1) = 0 then 0 else kyO ρ h b (orS ρ h b (k + 1) - 1)), nI (k + 1))) : Option ((Int32 × Int32 × Int32) ⊕ Int32)) := by
        intro q
        rw [eS, if_neg q]
      have hyes : (fitR ρ h b k = true ∧ btr ρ h b (orS ρ h b k) k = true) → some (Sum.inl (nI k, nI (kyO ρ h b k), nI (k + 1))) = (some (Sum.inl (mI (orS ρ h b (k + 1)), nI (if orS ρ h b (k + 1) = 0 then 0 else kyO ρ h b (orS ρ h b (k + 1) - 1)), nI (k + 1))) : Option ((Int32 × Int32 × Int32) ⊕ Int32)) := by
        intro q
        rw [eS, if_pos q, mI_s, if_neg (by omega)] <;> rfl
      have h82f : jL_oneRoom_81 xs L (nI b) (mI (orS ρ h b k), nI (if orS ρ h b k = 0 then 0 else kyO ρ h b (orS ρ h b k - 1)), nI k) hd = some (Sum.inl (mI (orS ρ h b k), nI (if orS ρ h b k = 0 then 0 else kyO ρ h b (orS ρ h b k - 1)), nI (k + 1))) := by
        unfold jL_oneRoom_81 jL_oneRoom_82
        try dsimp only
        rw [free_l hL Q H hh hb hk, Option.bind_some, if_pos rfl, ek]
      have h82t : okF ρ b k = true → jL_oneRoom_82 xs L (nI b) (mI (orS ρ h b k), nI (if orS ρ h b k = 0 then 0 else kyO ρ h b (orS ρ h b k - 1)), nI k) hd (1 : Int32) = some (Sum.inl (mI (orS ρ h b (k + 1)), nI (if orS ρ h b (k + 1) = 0 then 0 else kyO ρ h b (orS ρ h b (k + 1) - 1)), nI (k + 1))) := by
        intro hok
        have hok2 : canU ρ b k = true ∧ tkA ρ b k = true := by unfold okF at hok; simpa using hok
        unfold jL_oneRoom_82 jL_oneRoom_148
        try dsimp only
        rw [free_l hL Q H hh hb hk, Option.bind_some, if_neg (by decide), people_h hL Q hb, Option.bind_some, ek]
        have eits : (((nI (freeC ρ h b k) * (1000 : Int32)) + nI (rmv ρ k 3)) * (10 : Int32)) + nI k = nI (kyO ρ h b k) := by
          rw [show (1000 : Int32) = nI 1000 from rfl, show (10 : Int32) = nI 10 from rfl, pk_mul, nI_add, pk_mul, nI_add]
          rfl
        by_cases q3 : prs ρ b ≤ freeC ρ h b k
        · have hfit : fitR ρ h b k = true := by unfold fitR; rw [hok2.1, hok2.2, decide_eq_true q3] <;> rfl
          rw [if_pos (nI_le q3 (by omega)), show fL_room xs L (nI k) (3 : Int32) = some (nI (rmv ρ k 3)) from roomR_h hL Q hk (i := 3) (by omega), Option.bind_some, eits]
          by_cases q4 : orS ρ h b k = 0
          · rw [q4, if_pos (by rw [mI_0]; decide)]
            exact hyes ⟨hfit, decide_eq_true (Or.inl q4)⟩
          · have hfb := freeC_le (ρ := ρ) (h := h) (b := b) (r := orS ρ h b k - 1)
            have hwb := RQ_rm Q (r := orS ρ h b k - 1) (by omega)
            have em : mI (orS ρ h b k) = nI (orS ρ h b k - 1) := by
              rw [← mI_s]; congr 1; omega
            rw [if_neg (by rw [em]; exact nlt0 (by omega)), if_neg q4]
            have k1 : kyO ρ h b k < 2 ^ 31 := by unfold kyO; omega
            have k2 : kyO ρ h b (orS ρ h b k - 1) < 2 ^ 31 := by unfold kyO; omega
            by_cases q5 : kyO ρ h b k ≤ kyO ρ h b (orS ρ h b k - 1)
            · rw [if_pos ((nI_leI k1 k2).mpr q5)]
              refine hyes ⟨hfit, decide_eq_true (Or.inr ?_)⟩
              unfold kyO at q5
              omega
            · rw [if_neg (fun z => q5 ((nI_leI k1 k2).mp z))]
              have := hno (fun q => by
                have := of_decide_eq_true q.2
                unfold kyO at q5
                omega)
              rw [if_neg q4] at this
              exact this
        · rw [if_neg (fun z => q3 ((nI_leI (by omega) (by omega)).mp z))]
          exact hno (fun q => by have := q.1; unfold fitR at this; rw [decide_eq_false q3, Bool.and_false] at this; cases this)
      have h81 : okF ρ b k = false → jL_oneRoom_81 xs L (nI b) (mI (orS ρ h b k), nI (if orS ρ h b k = 0 then 0 else kyO ρ h b (orS ρ h b k - 1)), nI k) hd = some (Sum.inl (mI (orS ρ h b (k + 1)), nI (if orS ρ h b (k + 1) = 0 then 0 else kyO ρ h b (orS ρ h b (k + 1) - 1)), nI (k + 1))) := by
        intro hok
        rw [h82f]
        exact hno (fun q => by have := q.1; unfold fitR at this; unfold okF at hok; rw [hok, Bool.false_and] at this; cases this)
      unfold stL_oneRoom_8 jL_oneRoom_62
      try dsimp only
      rw [roomsR_h hL Q, Option.bind_some, if_neg (nI_ge hk (by omega)), show fL_room xs L (nI k) (0 : Int32) = some (nI (rmv ρ k 0)) from roomR_h hL Q hk (i := 0) (by omega), Option.bind_some, show fL_booking xs L (nI b) (4 : Int32) = some (nI (bkv ρ b 4)) from bookR_h hL Q hb (i := 4) (by omega), Option.bind_some, show fL_room xs L (nI k) (2 : Int32) = some (nI (rmv ρ k 2)) from roomR_h hL Q hk (i := 2) (by omega), Option.bind_some, show fL_booking xs L (nI b) (3 : Int32) = some (nI (bkv ρ b 3)) from bookR_h hL Q hb (i := 3) (by omega), Option.bind_some, show fL_booking xs L (nI b) (2 : Int32) = some (nI (bkv ρ b 2)) from bookR_h hL Q hb (i := 2) (by omega), Option.bind_some]
      by_cases c1 : bkv ρ b 4 < rmv ρ k 2
      · rw [if_pos (nI_lt c1 (by omega))]
        exact h81 (by unfold okF canU; rw [decide_eq_false (by omega)] <;> rfl)
      · rw [if_neg (fun z => c1 ((nI_ltI (by omega) (by omega)).mp z))]
        have hc : canU ρ b k = true := decide_eq_true (by omega)
        by_cases c2 : rmv ρ k 0 = 0
        · rw [c2, if_pos (show nI 0 = (0 : Int32) from rfl)]
          exact h82t (by unfold okF; rw [hc]; unfold tkA; rw [decide_eq_true (Or.inl c2)] <;> rfl)
        · rw [if_neg (show ¬ nI (rmv ρ k 0) = (0 : Int32) from nI_ne (b := 0) (by omega) (by omega) c2)]
          by_cases c3 : rmv ρ k 0 = 1
          · rw [if_neg (fun z => z (by rw [c3] <;> rfl))]
            by_cases c4 : bkv ρ b 3 = 0
            · rw [if_pos (by rw [c4] <;> rfl)]
              exact h82t (by unfold okF; rw [hc]; unfold tkA; rw [decide_eq_true (Or.inr (Or.inl ⟨c3, c4⟩))] <;> rfl)
            · rw [if_neg (show ¬ nI (bkv ρ b 3) = (0 : Int32) from nI_ne (b := 0) (by omega) (by omega) c4), if_pos (by rw [c3]; decide)]
              exact h81 (by unfold okF; rw [hc]; unfold tkA; rw [decide_eq_false (by omega)] <;> rfl)
          · rw [if_pos (show ¬ nI (rmv ρ k 0) = (1 : Int32) from nI_ne (b := 1) (by omega) (by omega) c3)]
            have c5 : rmv ρ k 0 = 2 := by omega
            rw [if_neg (fun z => z (by rw [c5] <;> rfl))]
            by_cases c4 : bkv ρ b 2 = 0
            · rw [if_neg (fun z => z (by rw [c4] <;> rfl))]
              exact h82t (by unfold okF; rw [hc]; unfold tkA; rw [decide_eq_true (Or.inr (Or.inr ⟨c5, c4⟩))] <;> rfl)
            · rw [if_pos (show ¬ nI (bkv ρ b 2) = (0 : Int32) from nI_ne (b := 0) (by omega) (by omega) c4)]
              exact h81 (by unfold okF; rw [hc]; unfold tkA; rw [decide_eq_false (by omega)] <;> rfl)
    · unfold stL_oneRoom_8
      try dsimp only
      rw [roomsR_h hL Q, Option.bind_some, if_pos (nI_le (Nat.le_refl _) (by omega))] <;> rfl
  unfold fL_oneRoom
  rw [e, Option.bind_some]
  rw [mI_1]
end
