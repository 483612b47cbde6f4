/-! p47, layer 2: the waiting list; what the law asks of each booking and room -/
section
variable {xs : Nat → Int32} {L : Nat} {σ : Mem}
def wN (xs : Nat → Int32) (L k : Nat) : Nat := rwB xs L k 191
theorem wN_s {k : Nat} (hk : k < qB xs L) : wN xs L (k + 1) = wN xs L k + (1 - stK xs L k) ∧ (∀ i, i < wN xs L k → lstQ (rwB xs L (k + 1)) i = lstQ (rwB xs L k) i) ∧ (stK xs L k = 0 → lstQ (rwB xs L (k + 1)) (wN xs L k) = k) := by
  have hB := qB_rng (xs := xs) (L := L)
  have e := rwB_37 (xs := xs) (L := L) k (by omega)
  have hE := lyK_ext (xs := xs) (L := L) (k := k) (by omega)
  have hq : ∀ i, 191 ≤ i → lyK xs L (rwB xs L k) k i = rwB xs L k i := hE.2.2.2.2
  have hs := stK_1 hk
  have e9 : wN xs L (k + 1) = cms (lyK xs L (rwB xs L k) k) k 191 := rfl
  have el : ∀ i, lstQ (rwB xs L (k + 1)) i = cms (lyK xs L (rwB xs L k) k) k (192 + i) := fun i => rfl
  by_cases h : canA (lyK xs L (rwB xs L k) k) k = true
  · rw [if_pos h] at hs
    have ec : cms (lyK xs L (rwB xs L k) k) k = setBQ (lyK xs L (rwB xs L k) k) k 8 1 := if_pos h
    rw [e9, ec, hs]
    refine ⟨?_, fun i hi => ?_, fun z => by omega⟩
    · rw [setB_hi (by omega) (by omega) (by omega), hq 191 (by omega)] <;> rfl
    · rw [el, ec, setB_hi (by omega) (by omega) (by omega), hq _ (by omega)] <;> rfl
  · rw [if_neg h] at hs
    have ec : cms (lyK xs L (rwB xs L k) k) k = wtsQ (lyK xs L (rwB xs L k) k) k := if_neg h
    rw [e9, ec, hs]
    refine ⟨?_, fun i hi => ?_, fun _ => ?_⟩
    · unfold wtsQ
      rw [up_s, hq 191 (by omega)] <;> rfl
    · have hi2 : i < rwB xs L k 191 := hi
      rw [el, ec]
      unfold wtsQ
      rw [up_n (by omega), hq 191 (by omega), up_n (by omega), hq _ (by omega)] <;> rfl
    · rw [el, ec]
      unfold wtsQ
      rw [up_n (by omega), hq 191 (by omega)]
      exact up_s _ _ _
theorem wN_mono : ∀ n k, k ≤ n → n ≤ qB xs L → wN xs L k ≤ wN xs L n := by
  intro n
  induction n with
  | zero => intro k hk _; rw [show k = 0 by omega]; exact Nat.le_refl _
  | succ n ih =>
    intro k hk hn
    by_cases e : k = n + 1
    · rw [e]; exact Nat.le_refl _
    · have := ih k (by omega) (by omega)
      have := (wN_s (xs := xs) (L := L) (k := n) (by omega)).1
      omega
theorem wN_l {k : Nat} (h0 : stK xs L k = 0) : ∀ n, k < n → n ≤ qB xs L → wN xs L k < wN xs L n ∧ lstQ (rwB xs L n) (wN xs L k) = k := by
  intro n
  induction n with
  | zero => intro h; omega
  | succ n ih =>
    intro hk hn
    obtain ⟨s1, s2, s3⟩ := wN_s (xs := xs) (L := L) (k := n) (by omega)
    by_cases e : k = n
    · subst e
      exact ⟨by omega, s3 h0⟩
    · obtain ⟨i1, i2⟩ := ih (by omega) (by omega)
      exact ⟨by omega, by rw [s2 _ i1]; exact i2⟩
theorem wN_0 : wN xs L 0 = 0 := by
  have hR := qR_rng (xs := xs) (L := L)
  show rwS xs L 191 = 0
  rw [rwS_lo.2 191 (by omega), rwR_hi _ (by omega) 191 (by omega)]
theorem wN_c : ∀ k, k ≤ qB xs L → sumNQ (fun b => b1 (decide (stK xs L b = 0))) k = wN xs L k := by
  intro k
  induction k with
  | zero => intro _; rw [wN_0] <;> rfl
  | succ k ih =>
    intro hk
    have hle := stK_le (xs := xs) (L := L) (k := k) (by omega)
    show sumNQ (fun b => b1 (decide (stK xs L b = 0))) k + b1 (decide (stK xs L k = 0)) = _
    rw [ih (by omega), (wN_s (by omega)).1]
    congr 1
    have : stK xs L k = 0 ∨ stK xs L k = 1 := by omega
    rcases this with e | e <;> rw [e] <;> rfl
/-- who is not accepted is not placed -/
theorem plB_no {ρ : RwQ} {b : Nat} (h : bkv ρ b 8 ≠ 1) {n : Nat} {π : PnQ} (h0 : π.2.1 b = 0) : ∀ k, (plB ρ n π k).2.1 b = 0 := by
  intro k
  induction k with
  | zero => exact h0
  | succ k ih =>
    show (if isPl ρ k n = true then plc1 ρ k (plB ρ n π k) else plB ρ n π k).2.1 b = 0
    by_cases q : isPl ρ k n = true
    · rw [if_pos q, plc1_bec (fun z => h (by rw [z]; exact (of_decide_eq_true q).1))]
      exact ih
    · rw [if_neg q]; exact ih
theorem plc_no {ρ : RwQ} {b : Nat} (h : bkv ρ b 8 ≠ 1) : (plc ρ).2.1 b = 0 := by
  have : ∀ n, (plN ρ n).2.1 b = 0 := by
    intro n
    induction n with
    | zero => rfl
    | succ n ih => exact plB_no h ih _
  exact this 30
theorem asks_h (hL : L ≤ 260) (h1 : I1 σ (rwF xs L)) (h3 : I3 (rwF xs L)) (q16 : Int32) {ac : Nat → Int32} (hA : acK xs L (qB xs L) ac) : loop (stL_body_113 xs L (q16, σ) ac) 9 ((0 : Int32), (0 : Int32)) = some (.inl (nI (wN xs L (qB xs L)))) := by
  have hB := qB_rng (xs := xs) (L := L)
  have Q := rwB_RQ (xs := xs) (L := L)
  obtain ⟨a2, hI, e⟩ := loop_go (step := stL_body_113 xs L (q16, σ) ac) (fun k (a : Int32 × Int32) => a = (nI (wN xs L k), nI k)) (qB xs L) (fun k a hk ha => by
    subst ha
    have hle := stK_le hk
    have h37 : k < rwF xs L 37 := by rw [F_37]; exact hk
    have hm := wN_mono (xs := xs) (L := L) (qB xs L) k (by omega) (Nat.le_refl _)
    have h16 := h3.2.1.2.1
    have e2 : loop (stL_body_125 (nI (wN xs L k), nI k) (q16, σ) xs L) 9 (0 : Int32) = some (.inl ()) := by
      obtain ⟨a3, g1, g2⟩ := loop_go (step := stL_body_125 (nI (wN xs L k), nI k) (q16, σ) xs L) (fun w (a : Int32) => a = nI w) 7 (fun w a hw ha => by
        subst ha
        refine ⟨nI (w + 1), ?_, rfl⟩
        unfold stL_body_125
        try dsimp only
        rw [if_neg (fun z => by have := (nI_leI (a := 7) (by omega) (by omega)).mp z; omega), q_booking h1 h3 h37 hw, Option.bind_some, Sum.elim_inl, show fL_booking xs L (nI k) (nI w) = some (nI (bkv (rwF xs L) k w)) from bookR_h hL Q h37 hw, Option.bind_some, if_pos rfl, show nI w + (1 : Int32) = nI (w + 1) from nI_add _ _]) 2 (0 : Int32) rfl
      subst g1
      refine g2.trans (loop_end ?_ 1)
      unfold stL_body_125
      rw [if_pos (by decide)]
    have hst : ac k = nI (stK xs L k) := by rw [hA k]; exact if_pos hk
    have ek : nI k + (1 : Int32) = nI (k + 1) := nI_add _ _
    refine ⟨(nI (wN xs L (k + 1)), nI (k + 1)), ?_, rfl⟩
    unfold stL_body_113
    rw [bookingsOf_h hL, Option.bind_some]
    try dsimp only
    rw [if_neg (fun z => by have := (nI_leI (by omega) (by omega)).mp z; omega), e2, Option.bind_some, Sum.elim_inl, q_state h1 h3 h37, Option.bind_some, Sum.elim_inl, gd_inb (by omega) (by omega), nI_clamp (by omega), hst]
    unfold jL_body_177
    try dsimp only
    rw [nI_clamp (by omega), hst, ek]
    have h8 : bkv (rwF xs L) k 8 = stK xs L k := rfl
    rw [h8]
    have hc : stK xs L k = 0 ∨ stK xs L k = 1 := by omega
    rcases hc with hc | hc
    · obtain ⟨l1, l2⟩ := wN_l hc (qB xs L) hk (Nat.le_refl _)
      have l3 : wN xs L k < rwF xs L 191 := l1
      rw [hc, if_pos (show nI 0 = (0 : Int32) from rfl), if_pos (show nI 0 = (0 : Int32) from rfl), if_pos (show nI 0 = (0 : Int32) from rfl), q_waiting h1 h3 l3, Option.bind_some, Sum.elim_inl, show lstQ (rwF xs L) (wN xs L k) = k from l2, if_neg (fun z => z rfl), q_placed h1 h3 h37, Option.bind_some, Sum.elim_inl]
      have p0 : (plc (rwF xs L)).2.1 k = 0 := plc_no (by rw [h8]; omega)
      rw [p0, if_neg (fun z => z rfl), q_pays h1 h3 h37, Option.bind_some, Sum.elim_inl]
      have pd : pdB (rwF xs L) (plc (rwF xs L)) k = 0 := by
        unfold pdB
        rw [if_neg (fun z => by omega)]
      rw [pd, if_pos (show nI 0 = (0 : Int32) from rfl), (wN_s hk).1, hc, show nI (wN xs L k) + (1 : Int32) = nI (wN xs L k + (1 - 0)) from nI_add _ _]
    · rw [hc, if_neg (by decide), if_pos (show nI 1 = (1 : Int32) from rfl), if_neg (by decide), (wN_s hk).1, hc]
      rfl) (9 - qB xs L - 1 + 1) ((0 : Int32), (0 : Int32)) (by rw [wN_0] <;> rfl)
  subst hI
  have e9 : 9 = qB xs L + (9 - qB xs L - 1 + 1) := by omega
  rw [e9, e]
  refine loop_end ?_ _
  unfold stL_body_113
  rw [bookingsOf_h hL, Option.bind_some]
  try dsimp only
  rw [if_pos (Int32.le_refl _)]
theorem askr_h (hL : L ≤ 260) (h1 : I1 σ (rwF xs L)) (h3 : I3 (rwF xs L)) (q16 : Int32) : loop (stL_body_234 xs L (q16, σ)) 6 (0 : Int32) = some (.inl ()) := by
  have hR := qR_rng (xs := xs) (L := L)
  have Q := rwB_RQ (xs := xs) (L := L)
  obtain ⟨a2, hI, e⟩ := loop_go (step := stL_body_234 xs L (q16, σ)) (fun k (a : Int32) => a = nI k) (qR xs L) (fun k a hk ha => by
    subst ha
    have h4 : k < rwF xs L 4 := by rw [F_4]; exact hk
    have e2 : loop (stL_body_246 (nI k) (q16, σ) xs L) 6 (0 : Int32) = some (.inl ()) := by
      obtain ⟨a3, g1, g2⟩ := loop_go (step := stL_body_246 (nI k) (q16, σ) xs L) (fun w (a : Int32) => a = nI w) 4 (fun w a hw ha => by
        subst ha
        refine ⟨nI (w + 1), ?_, rfl⟩
        unfold stL_body_246
        try dsimp only
        rw [if_neg (fun z => by have := (nI_leI (a := 4) (by omega) (by omega)).mp z; omega), q_room h1 h3 h4 hw, Option.bind_some, Sum.elim_inl, show fL_room xs L (nI k) (nI w) = some (nI (rmv (rwF xs L) k w)) from roomR_h hL Q h4 hw, Option.bind_some, if_pos rfl, show nI w + (1 : Int32) = nI (w + 1) from nI_add _ _]) 2 (0 : Int32) rfl
      subst g1
      refine g2.trans (loop_end ?_ 1)
      unfold stL_body_246
      rw [if_pos (by decide)]
    refine ⟨nI (k + 1), ?_, rfl⟩
    unfold stL_body_234
    rw [roomsOf_h hL, Option.bind_some, if_neg (fun z => by have := (nI_leI (by omega) (by omega)).mp z; omega), e2, Option.bind_some, Sum.elim_inl, show nI k + (1 : Int32) = nI (k + 1) from nI_add _ _]) (6 - qR xs L - 1 + 1) (0 : Int32) rfl
  subst hI
  have e6 : 6 = qR xs L + (6 - qR xs L - 1 + 1) := by omega
  rw [e6, e]
  refine loop_end ?_ _
  unfold stL_body_234
  rw [roomsOf_h hL, Option.bind_some, if_pos (Int32.le_refl _)]
end
