/-! p47, layer 2: sets of rooms and beds, the law's side -/
section
variable {xs : Nat → Int32} {L : Nat} {ρ h : RwQ} {hd : Nat → Nat → Int32} {b : Nat}
theorem isEnough_l (hL : L ≤ 260) (Q : RQ xs L ρ) (H : HD hd h) (hh : ∀ i, h i ≤ 17) (hb : b < ρ 37) {S : Nat} (hS : S < 256) : fL_isEnough xs L (nI b) (nI S) hd = some (nI (b1 (subM ρ b S && enoughQ ρ (freeC ρ h b) b S))) := by
  have hl := RQ_le Q
  have hB := RQ_bk Q hb
  have hF : ∀ r, r < ρ 4 → freeC ρ h b r ≤ 10 := fun r hr => by
    have := freeC_le (ρ := ρ) (h := h) (b := b) (r := r)
    have := RQ_rm Q hr
    omega
  have kS : ∀ kd, sumK ρ (freeC ρ h b) S kd ≤ 80 := fun kd => sumK_le (S := S) (kd := kd) (by omega) hF
  have e : OkQ (loop (stL_isEnough_8 xs L (nI S) (nI b) hd) 5000 ((0 : Int32), (fun _ => 0))) (fun r => Sum.elim (fun z => subM ρ b S = true ∧ ∀ kd, kd < 3 → z kd = nI (sumK ρ (freeC ρ h b) S kd)) (fun w => w = nI 0 ∧ subM ρ b S = false) r) := by
    refine loop_ok (ρ 4) (fun k (a : Int32 × (Nat → Int32)) => a.1 = nI k ∧ (∀ kd, kd < 3 → a.2 kd = nI (sumNQ (sumKT ρ (freeC ρ h b) S kd) k)) ∧ ∀ r, r < k → S / 2 ^ r % 2 = 1 → canU ρ b r = true) (by omega) ⟨rfl, fun kd _ => rfl, fun r hr => by omega⟩ (fun k a hk hI => ?_)
    obtain ⟨ai, ap⟩ := a
    obtain ⟨i1, i2, i3⟩ := hI
    try dsimp only at i1 i2
    subst i1
    have ek : nI k + (1 : Int32) = nI (k + 1) := nI_add _ _
    unfold stL_isEnough_8
    try dsimp only
    rw [roomsR_h hL Q, Option.bind_some]
    by_cases hlt : k < ρ 4
    · have hm := RQ_rm Q hlt
      rw [if_neg (nI_ge hlt (by omega)), show ((nI S >>> (nI k &&& 31)) &&& (1 : Int32)) = nI (S / 2 ^ k % 2) from nI_bit (by omega) (by omega), ek]
      by_cases q1 : S / 2 ^ k % 2 = 0
      · rw [q1, if_neg (fun z => z rfl)]
        refine Ok_some ⟨hlt, rfl, fun kd hkd => ?_, fun r hr hbit => ?_⟩
        · show ap kd = nI (sumNQ (sumKT ρ (freeC ρ h b) S kd) k + sumKT ρ (freeC ρ h b) S kd k)
          rw [i2 kd hkd, show sumKT ρ (freeC ρ h b) S kd k = 0 from if_neg (by omega)] <;> rfl
        · by_cases y : r = k
          · subst y; omega
          · exact i3 r (by omega) hbit
      · have q1b : S / 2 ^ k % 2 = 1 := by omega
        rw [q1b, if_pos (by decide), show fL_booking xs L (nI b) (4 : Int32) = some (nI (bkv ρ b 4)) from bookR_h hL Q hb (i := 4) (by omega), Option.bind_some, show fL_room xs L (nI k) (2 : Int32) = some (nI (rmv ρ k 2)) from roomR_h hL Q hlt (i := 2) (by omega), Option.bind_some]
        by_cases q2 : rmv ρ k 2 ≤ bkv ρ b 4
        · rw [if_pos (nI_le q2 (by omega)), show fL_room xs L (nI k) (0 : Int32) = some (nI (rmv ρ k 0)) from roomR_h hL Q hlt (i := 0) (by omega), Option.bind_some, gd_inb (by omega) (by omega), nI_clamp (by omega), free_l hL Q H hh hb hlt, Option.bind_some, i2 _ (by omega), nI_add]
          refine Ok_some ⟨hlt, rfl, fun kd hkd => ?_, fun r hr hbit => ?_⟩
          · show upd ap (rmv ρ k 0) _ kd = nI (sumNQ (sumKT ρ (freeC ρ h b) S kd) k + sumKT ρ (freeC ρ h b) S kd k)
            by_cases y : kd = rmv ρ k 0
            · rw [y, pk_us, show sumKT ρ (freeC ρ h b) S (rmv ρ k 0) k = freeC ρ h b k from if_pos ⟨q1b, rfl⟩]
            · rw [pk_un y, i2 kd hkd, show sumKT ρ (freeC ρ h b) S kd k = 0 from if_neg (fun z => y z.2.symm)] <;> rfl
          · by_cases y : r = k
            · rw [y]; exact decide_eq_true q2
            · exact i3 r (by omega) hbit
        · rw [if_neg (fun z => q2 ((nI_leI (by omega) (by omega)).mp z))]
          refine Ok_some ⟨rfl, ?_⟩
          refine Bool.eq_false_iff.mpr (fun z => ?_)
          have := subM_iff.mp z k hlt q1b
          exact q2 (of_decide_eq_true this)
    · have e : k = ρ 4 := by omega
      subst e
      rw [if_pos (nI_le (Nat.le_refl _) (by omega))]
      exact Ok_some ⟨subM_iff.mpr i3, i2⟩
  obtain ⟨r, hr, hP⟩ := e
  unfold fL_isEnough
  rw [hr, Option.bind_some]
  cases r with
  | inr w =>
    obtain ⟨p1, p2⟩ := hP
    rw [Sum.elim_inr, p1, p2]
    rfl
  | inl z =>
    obtain ⟨p1, p2⟩ := hP
    have k0 := kS 0
    have k1 := kS 1
    have k2 := kS 2
    rw [Sum.elim_inl, show fL_booking xs L (nI b) (2 : Int32) = some (nI (bkv ρ b 2)) from bookR_h hL Q hb (i := 2) (by omega), Option.bind_some, show fL_booking xs L (nI b) (3 : Int32) = some (nI (bkv ρ b 3)) from bookR_h hL Q hb (i := 3) (by omega), Option.bind_some, show z (0 : Int32).toNatClampNeg = nI (sumK ρ (freeC ρ h b) S 0) from p2 0 (by omega), show z (1 : Int32).toNatClampNeg = nI (sumK ρ (freeC ρ h b) S 1) from p2 1 (by omega), show z (2 : Int32).toNatClampNeg = nI (sumK ρ (freeC ρ h b) S 2) from p2 2 (by omega), p1, Bool.true_and]
    have m1 := nI_max (a := bkv ρ b 2) (b := sumK ρ (freeC ρ h b) S 1) (by omega) (by omega)
    have m2 := nI_max (a := bkv ρ b 3) (b := sumK ρ (freeC ρ h b) S 2) (by omega) (by omega)
    rw [show nI 0 = (0 : Int32) from rfl] at m1 m2
    rw [m1, m2, nI_add]
    unfold enoughQ
    by_cases y : (bkv ρ b 2 - sumK ρ (freeC ρ h b) S 1) + (bkv ρ b 3 - sumK ρ (freeC ρ h b) S 2) ≤ sumK ρ (freeC ρ h b) S 0
    · rw [if_neg (fun z => by have := (nI_ltI (by omega) (by omega)).mp z; omega), decide_eq_true y] <;> rfl
    · rw [if_pos (nI_lt (by omega) (by omega)), decide_eq_false y] <;> rfl
theorem rooms_l (hL : L ≤ 260) (Q : RQ xs L ρ) (H : HD hd h) (hh : ∀ i, h i ≤ 17) (hb : b < ρ 37) : fL_rooms xs L (nI b) hd = some (nI (setOfQ ρ h b)) := by
  have hl := RQ_le Q
  have hB := RQ_bk Q hb
  have hor : orR ρ h b ≤ ρ 4 := orS_le (ρ := ρ) (h := h) (b := b) (ρ 4)
  have hp : 2 ^ (ρ 4) ≤ 16 := Nat.le_trans (Nat.pow_le_pow_right (by omega) hl.1.2) (by decide)
  have hp0 := pow_pos (ρ 4)
  unfold fL_rooms
  rw [oneRoom_l hL Q H hh hb, Option.bind_some]
  unfold setOfQ
  by_cases h0 : orR ρ h b = 0
  · rw [h0, if_pos (show nI 0 ≤ (0 : Int32) by decide), if_pos rfl]
    have e : loop (stL_rooms_23 xs L (nI b) hd) 17 ((0 : Int32), (1 : Int32)) = some (nI (if bkv ρ b 6 = 1 then 0 else stRQ ρ h b)) := by
      have esh : (1 : Int32) <<< (nI (ρ 4) &&& 31) = nI (2 ^ (ρ 4)) := by
        have := nI_shl (n := 1) (k := ρ 4) (by omega) (by omega)
        rw [Nat.one_mul] at this
        exact this
      by_cases h6 : bkv ρ b 6 = 1
      · rw [if_pos h6]
        refine loop_end ?_ 16
        unfold stL_rooms_23
        try dsimp only
        rw [roomsR_h hL Q, Option.bind_some, esh]
        by_cases z : nI (2 ^ (ρ 4)) ≤ (1 : Int32)
        · rw [if_pos z] <;> rfl
        · rw [if_neg z, show fL_booking xs L (nI b) (6 : Int32) = some (nI (bkv ρ b 6)) from bookR_h hL Q hb (i := 6) (by omega), Option.bind_some, h6, if_pos (by decide)] <;> rfl
      · rw [if_neg h6]
        have h60 : bkv ρ b 6 = 0 := by omega
        obtain ⟨a2, hI, e2⟩ := loop_go (step := stL_rooms_23 xs L (nI b) hd) (fun k (a : Int32 × Int32) => a = (nI (stSQ ρ h b k), nI (k + 1))) (2 ^ (ρ 4) - 1) (fun k a hk ha => by
          subst ha
          have hsl := stS_le (ρ := ρ) (h := h) (b := b) k
          have eS : stSQ ρ h b (k + 1) = if subM ρ b (k + 1) = true ∧ (stSQ ρ h b k = 0 ∨ pc (k + 1) < pc (stSQ ρ h b k)) ∧ enoughQ ρ (freeC ρ h b) b (k + 1) = true then k + 1 else stSQ ρ h b k := rfl
          have ek : nI (k + 1) + (1 : Int32) = nI (k + 1 + 1) := nI_add _ _
          have h62 : (stSQ ρ h b k = 0 ∨ pc (k + 1) < pc (stSQ ρ h b k)) → jL_rooms_62 xs L (nI b) (nI (stSQ ρ h b k), nI (k + 1)) hd = some (.inl (nI (stSQ ρ h b (k + 1)), nI (k + 1 + 1))) := by
            intro hc
            unfold jL_rooms_62
            try dsimp only
            rw [isEnough_l hL Q H hh hb (by omega), Option.bind_some, ek, eS]
            by_cases y : subM ρ b (k + 1) = true ∧ enoughQ ρ (freeC ρ h b) b (k + 1) = true
            · rw [y.1, y.2, if_neg (by decide), if_pos ⟨rfl, hc, rfl⟩]
            · have y2 : (subM ρ b (k + 1) && enoughQ ρ (freeC ρ h b) b (k + 1)) = false := by
                refine Bool.eq_false_iff.mpr (fun z => y ?_)
                simpa using z
              rw [y2, if_pos (show nI (b1 false) = (0 : Int32) from rfl), if_neg (fun z => y ⟨z.1, z.2.2⟩)]
          refine ⟨(nI (stSQ ρ h b (k + 1)), nI (k + 1 + 1)), ?_, rfl⟩
          unfold stL_rooms_23
          try dsimp only
          rw [roomsR_h hL Q, Option.bind_some, esh, if_neg (fun z => by have := (nI_leI (by omega) (by omega)).mp z; omega), show fL_booking xs L (nI b) (6 : Int32) = some (nI (bkv ρ b 6)) from bookR_h hL Q hb (i := 6) (by omega), Option.bind_some, h60, if_neg (fun z => z rfl)]
          by_cases y0 : stSQ ρ h b k = 0
          · rw [if_pos (by rw [y0] <;> rfl)]
            exact h62 (Or.inl y0)
          · have pk1 := pc_le (S := k + 1)
            have pk2 := pc_le (S := stSQ ρ h b k)
            rw [if_neg (show ¬ nI (stSQ ρ h b k) = (0 : Int32) from nI_ne (b := 0) (by omega) (by omega) y0), pc_bits _ (by omega), Option.bind_some, pc_bits _ (by omega), Option.bind_some]
            by_cases y1 : pc (stSQ ρ h b k) ≤ pc (k + 1)
            · rw [if_pos (nI_le y1 (by omega)), ek, eS, if_neg (fun z => by rcases z.2.1 with z | z <;> omega)]
            · rw [if_neg (fun z => y1 ((nI_leI (by omega) (by omega)).mp z))]
              exact h62 (Or.inr (by omega))) (17 - 2 ^ (ρ 4) + 1) ((0 : Int32), (1 : Int32)) rfl
        subst hI
        have e17 : 17 = (2 ^ (ρ 4) - 1) + (17 - 2 ^ (ρ 4) + 1) := by omega
        rw [e17, e2]
        refine loop_end ?_ _
        unfold stL_rooms_23
        try dsimp only
        rw [roomsR_h hL Q, Option.bind_some, esh, if_pos (by rw [show 2 ^ (ρ 4) - 1 + 1 = 2 ^ (ρ 4) by omega]; exact Int32.le_refl _)]
        rfl
    rw [e, Option.bind_some]
  · rw [if_neg (fun z => by have := (nI_leI (b := 0) (by omega) (by omega)).mp z; omega), if_neg h0, show nI (orR ρ h b) - (1 : Int32) = nI (orR ρ h b - 1) from pk_sub (b := 1) (by omega)]
    have := nI_shl (n := 1) (k := orR ρ h b - 1) (by omega) (by
      have : 2 ^ (orR ρ h b - 1) ≤ 2 ^ 3 := Nat.pow_le_pow_right (by omega) (by omega)
      omega)
    rw [Nat.one_mul] at this
    exact congrArg some this
theorem bedFor_l (hL : L ≤ 260) (Q : RQ xs L ρ) (H : HD hd h) (hh : ∀ i, h i ≤ 17) (hb : b < ρ 37) {S kd : Nat} (hS : S < 256) (hkd : kd < 3) : fL_bedFor xs L (nI b) (nI S) (nI kd) hd = some (if ffB ρ h b S kd < 10 * ρ 4 then nI (ffB ρ h b S kd) else -nI 1) := by
  have hl := RQ_le Q
  have e : OkQ (loop (stL_bedFor_3 xs L (nI S) (nI kd) (nI b) hd) 5000 (0 : Int32)) (fun r => Sum.elim (fun _ => ∀ x, x < 10 * ρ 4 → okB ρ h b S kd x = false) (fun w => ∃ c, w = nI c ∧ c < 10 * ρ 4 ∧ okB ρ h b S kd c = true ∧ ∀ x, x < c → okB ρ h b S kd x = false) r) := by
    refine loop_ok (ρ 4) (fun r (a : Int32) => a = nI r ∧ ∀ x, x < 10 * r → okB ρ h b S kd x = false) (by omega) ⟨rfl, fun x hx => by omega⟩ (fun r a hr hI => ?_)
    obtain ⟨rfl, i2⟩ := hI
    have er : nI r + (1 : Int32) = nI (r + 1) := nI_add _ _
    unfold stL_bedFor_3
    try dsimp only
    rw [roomsR_h hL Q, Option.bind_some]
    by_cases hlt : r < ρ 4
    · have hm := RQ_rm Q hlt
      have ok0 : ∀ d, d < 10 → ¬ (d < rmv ρ r 1 ∧ S / 2 ^ r % 2 = 1 ∧ rmv ρ r 0 = kd ∧ freeB ρ h b (10 * r + d) = true) → okB ρ h b S kd (10 * r + d) = false := by
        intro d hd z
        unfold okB
        rw [show (10 * r + d) % 10 = d by omega, show (10 * r + d) / 10 = r by omega]
        by_cases y : d < rmv ρ r 1 ∧ S / 2 ^ r % 2 = 1 ∧ rmv ρ r 0 = kd
        · rw [decide_eq_true y, Bool.true_and]
          exact Bool.eq_false_iff.mpr (fun w => z ⟨y.1, y.2.1, y.2.2, w⟩)
        · rw [decide_eq_false y, Bool.false_and]
      have skip : (∀ d, d < 10 → okB ρ h b S kd (10 * r + d) = false) → ∀ x, x < 10 * (r + 1) → okB ρ h b S kd x = false := by
        intro z x hx
        by_cases y : x < 10 * r
        · exact i2 x y
        · have := z (x - 10 * r) (by omega)
          rw [show 10 * r + (x - 10 * r) = x by omega] at this
          exact this
      rw [if_neg (nI_ge hlt (by omega)), show ((nI S >>> (nI r &&& 31)) &&& (1 : Int32)) = nI (S / 2 ^ r % 2) from nI_bit (by omega) (by omega), er]
      by_cases q1 : S / 2 ^ r % 2 = 0
      · rw [q1, if_pos (show nI 0 = (0 : Int32) from rfl)]
        exact Ok_some ⟨hlt, rfl, skip (fun d hd => ok0 d hd (fun z => by omega))⟩
      · have q1b : S / 2 ^ r % 2 = 1 := by omega
        rw [q1b, if_neg (by decide), show fL_room xs L (nI r) (0 : Int32) = some (nI (rmv ρ r 0)) from roomR_h hL Q hlt (i := 0) (by omega), Option.bind_some]
        by_cases q2 : rmv ρ r 0 = kd
        · rw [if_pos (by rw [q2])]
          have e2 : OkQ (loop (stL_bedFor_39 xs L (nI r) (nI b) hd) 5000 (0 : Int32)) (fun s => Sum.elim (fun _ => ∀ d, d < rmv ρ r 1 → freeB ρ h b (10 * r + d) = false) (fun w => ∃ d, w = nI (10 * r + d) ∧ d < rmv ρ r 1 ∧ freeB ρ h b (10 * r + d) = true ∧ ∀ d2, d2 < d → freeB ρ h b (10 * r + d2) = false) s) := by
            refine loop_ok (rmv ρ r 1) (fun d (a : Int32) => a = nI d ∧ ∀ d2, d2 < d → freeB ρ h b (10 * r + d2) = false) (by omega) ⟨rfl, fun d2 h => by omega⟩ (fun d a hd hI => ?_)
            obtain ⟨rfl, j2⟩ := hI
            have ed : nI d + (1 : Int32) = nI (d + 1) := nI_add _ _
            have ex : ((10 : Int32) * nI r) + nI d = nI (10 * r + d) := by rw [show (10 : Int32) = nI 10 from rfl, pk_mul, nI_add]
            unfold stL_bedFor_39
            rw [show fL_room xs L (nI r) (1 : Int32) = some (nI (rmv ρ r 1)) from roomR_h hL Q hlt (i := 1) (by omega), Option.bind_some, ex, ed]
            by_cases hd2 : d < rmv ρ r 1
            · rw [if_neg (nI_ge hd2 (by omega)), isFree_l hL Q H hh hb (by omega), Option.bind_some]
              cases hf : freeB ρ h b (10 * r + d)
              · rw [if_pos (b1_0.mpr rfl)]
                refine Ok_some ⟨hd2, rfl, fun d2 h2 => ?_⟩
                by_cases y : d2 = d
                · rw [y]; exact hf
                · exact j2 d2 (by omega)
              · rw [if_neg (fun z => Bool.noConfusion (b1_0.mp z))]
                exact Ok_some ⟨d, rfl, hd2, hf, j2⟩
            · have : d = rmv ρ r 1 := by omega
              subst this
              rw [if_pos (nI_le (Nat.le_refl _) (by omega))]
              exact Ok_some j2
          obtain ⟨s, hs, hP⟩ := e2
          rw [hs, Option.bind_some]
          cases s with
          | inl u =>
            rw [Sum.elim_inl]
            refine Ok_some ⟨hlt, rfl, skip (fun d hd => ok0 d hd (fun z => ?_))⟩
            have hP2 : ∀ d, d < rmv ρ r 1 → freeB ρ h b (10 * r + d) = false := hP
            have := hP2 d z.1
            rw [this] at z
            exact Bool.noConfusion z.2.2.2
          | inr w =>
            obtain ⟨d, rfl, d1, d2, d3⟩ := hP
            rw [Sum.elim_inr]
            refine Ok_some ⟨10 * r + d, rfl, by omega, ?_, fun x hx => ?_⟩
            · unfold okB
              rw [show (10 * r + d) % 10 = d by omega, show (10 * r + d) / 10 = r by omega, decide_eq_true ⟨d1, q1b, q2⟩, d2] <;> rfl
            · by_cases y : x < 10 * r
              · exact i2 x y
              · have := ok0 (x - 10 * r) (by omega) (fun z => by
                  have hx3 := d3 (x - 10 * r) (by omega)
                  rw [hx3] at z
                  exact Bool.noConfusion z.2.2.2)
                rw [show 10 * r + (x - 10 * r) = x by omega] at this
                exact this
        · rw [if_neg (fun z => q2 (nI_inj (by omega) (by omega) z))]
          exact Ok_some ⟨hlt, rfl, skip (fun d hd => ok0 d hd (fun z => q2 z.2.2.1))⟩
    · have e : r = ρ 4 := by omega
      subst e
      rw [if_pos (nI_le (Nat.le_refl _) (by omega))]
      exact Ok_some i2
  obtain ⟨r, hr, hP⟩ := e
  unfold fL_bedFor
  rw [hr, Option.bind_some]
  cases r with
  | inl u =>
    have hP2 : ∀ x, x < 10 * ρ 4 → okB ρ h b S kd x = false := hP
    have ef : ffB ρ h b S kd = 10 * ρ 4 := fstN_eq (Nat.le_refl _) hP2 (fun z => absurd z (Nat.lt_irrefl _))
    rw [Sum.elim_inl, ef, if_neg (Nat.lt_irrefl _)]
    rfl
  | inr w =>
    obtain ⟨c, rfl, c1, c2, c3⟩ := hP
    have ef : ffB ρ h b S kd = c := fstN_eq (by omega) c3 (fun _ => c2)
    rw [Sum.elim_inr, ef, if_pos c1]
end
