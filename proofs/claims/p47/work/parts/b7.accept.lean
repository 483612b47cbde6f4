/-! p47, layer 2: who is accepted -/
section
variable {xs : Nat → Int32} {L : Nat}
def stK (xs : Nat → Int32) (L i : Nat) : Nat := bkv (rwF xs L) i 8
theorem lyK_ext {k : Nat} (hk : k < 16) : ExtQ (rwB xs L k) (lyK xs L (rwB xs L k) k) := lyT_ext (by rw [rwB_37 k (by omega)]; omega)
theorem rwB_st1 {k : Nat} (hk : k < 16) : bkv (rwB xs L (k + 1)) k 8 = if canA (lyK xs L (rwB xs L k) k) k = true then 1 else 0 := by
  have e := rwB_37 (xs := xs) (L := L) k (by omega)
  have hE := lyK_ext (xs := xs) (L := L) hk
  have h0 : bkv (lyK xs L (rwB xs L k) k) k 8 = 0 := by have := hE.2.2.2.1; rw [e] at this; exact this
  show bkv (cms (lyK xs L (rwB xs L k) k) k) k 8 = _
  unfold cms
  by_cases h : canA (lyK xs L (rwB xs L k) k) k = true
  · rw [if_pos h, if_pos h, bkv_setB (by omega) (by omega), if_pos ⟨rfl, rfl⟩]
  · rw [if_neg h, if_neg h]
    unfold wtsQ
    have hq := hE.2.2.2.2 191 (by omega)
    rw [bkv_up (by omega), bkv_up (by omega)]
    exact h0
theorem rwB_st2 {k i : Nat} (hk : k < 16) (hi : i < k) : bkv (rwB xs L (k + 1)) i 8 = bkv (rwB xs L k) i 8 := by
  have e := rwB_37 (xs := xs) (L := L) k (by omega)
  have hE := lyK_ext (xs := xs) (L := L) hk
  have h0 : bkv (lyK xs L (rwB xs L k) k) i 8 = bkv (rwB xs L k) i 8 := hE.2.2.1 i 8 (by omega) (by omega)
  show bkv (cms (lyK xs L (rwB xs L k) k) k) i 8 = _
  unfold cms
  by_cases h : canA (lyK xs L (rwB xs L k) k) k = true
  · rw [if_pos h, bkv_setB (by omega) (by omega), if_neg (by omega)]
    exact h0
  · rw [if_neg h]
    unfold wtsQ
    rw [bkv_up (by omega), bkv_up (by omega)]
    exact h0
theorem rwB_st {i : Nat} : ∀ n, i < n → n ≤ 16 → bkv (rwB xs L n) i 8 = bkv (rwB xs L (i + 1)) i 8 := by
  intro n
  induction n with
  | zero => intro h; omega
  | succ n ih =>
    intro h hn
    by_cases e : i = n
    · rw [e]
    · rw [rwB_st2 (by omega) (by omega), ih (by omega) (by omega)]
theorem stK_1 {k : Nat} (hk : k < qB xs L) : stK xs L k = if canA (lyK xs L (rwB xs L k) k) k = true then 1 else 0 := by
  have hB := qB_rng (xs := xs) (L := L)
  unfold stK rwF
  rw [rwB_st _ hk (by omega), rwB_st1 (by omega)]
theorem stK_le {k : Nat} (hk : k < qB xs L) : stK xs L k ≤ 1 := by
  rw [stK_1 hk]
  split <;> omega
theorem stK_b {k i : Nat} (hi : i < k) (hk : k ≤ qB xs L) : bkv (rwB xs L k) i 8 = stK xs L i := by
  have hB := qB_rng (xs := xs) (L := L)
  unfold stK rwF
  rw [rwB_st k hi (by omega), rwB_st (qB xs L) (by omega) (by omega)]
def capL (xs : Nat → Int32) (L : Nat) (ac : Nat → Int32) (k n : Nat) : Bool := staysQ (rwF xs L) k n && decide (most (rwF xs L) < sumNQ (abT (rwF xs L) ac n) (qB xs L) + prs (rwF xs L) k)
def acK (xs : Nat → Int32) (L k : Nat) (ac : Nat → Int32) : Prop := ∀ i, ac i = if i < k then nI (stK xs L i) else nI 0
theorem F_37 : rwF xs L 37 = qB xs L := rwB_37 _ (by have := qB_rng (xs := xs) (L := L); omega)
theorem F_4 : rwF xs L 4 = qR xs L := (rwB_RQ (xs := xs) (L := L)).1
theorem F_bk {b w : Nat} (hb : b < qB xs L) (hw : w < 7) : bkv (rwF xs L) b w = qK xs L b w := rwB_bk _ (by have := qB_rng (xs := xs) (L := L); omega) b w hb hw
theorem ly_bk {k b w : Nat} (hk : k < 16) (hb : b ≤ k) (hw : w < 7) : bkv (lyK xs L (rwB xs L k) k) b w = qK xs L b w := by
  have e := rwB_37 (xs := xs) (L := L) k (by omega)
  have hE := lyK_ext (xs := xs) (L := L) hk
  by_cases q : b = k
  · subst q
    have t : bkv (lyK xs L (rwB xs L b) b) (rwB xs L b 37) w = _ := lyT_bk (by omega)
    rw [layB_bk (by omega), if_pos rfl, e] at t
    rw [t]
    have : w = 0 ∨ w = 1 ∨ w = 2 ∨ w = 3 ∨ w = 4 ∨ w = 5 ∨ w = 6 := by omega
    rcases this with rfl | rfl | rfl | rfl | rfl | rfl | rfl <;> rfl
  · rw [hE.2.2.1 b w (by omega) (by omega)]
    exact rwB_bk k (by omega) b w (by omega) hw
theorem ly_most {k : Nat} (hk : k < qB xs L) : most (lyK xs L (rwB xs L k) k) = most (rwF xs L) := by
  have hB := qB_rng (xs := xs) (L := L)
  have hR := qR_rng (xs := xs) (L := L)
  have hE := lyK_ext (xs := xs) (L := L) (k := k) (by omega)
  have lo : ∀ i, i < 37 → lyK xs L (rwB xs L k) k i = rwF xs L i := fun i hi => by
    rw [hE.1 i hi, rwB_lo k (by omega) i hi]
    exact (rwB_lo _ (by omega) i hi).symm
  have ea : allB (lyK xs L (rwB xs L k) k) = allB (rwF xs L) := by
    unfold allB
    rw [lo 4 (by omega), F_4]
    refine sumN_congr (fun r hr => ?_)
    exact lo (5 + 4 * r + 1) (by omega)
  unfold most
  rw [ea, lo 0 (by omega)]
theorem cap_eq {ac : Nat → Int32} {k n : Nat} (hk : k < qB xs L) (hA : acK xs L k ac) : capQ (lyK xs L (rwB xs L k) k) k n = capL xs L ac k n := by
  have hB := qB_rng (xs := xs) (L := L)
  have e := rwB_37 (xs := xs) (L := L) k (by omega)
  have hE := lyK_ext (xs := xs) (L := L) (k := k) (by omega)
  have es : ∀ b, b ≤ k → staysQ (lyK xs L (rwB xs L k) k) b n = staysQ (rwF xs L) b n := fun b hb => by
    unfold staysQ
    rw [ly_bk (by omega) hb (by omega), ly_bk (by omega) hb (by omega), F_bk (by omega) (by omega), F_bk (by omega) (by omega)]
  have ep : ∀ b, b ≤ k → prs (lyK xs L (rwB xs L k) k) b = prs (rwF xs L) b := fun b hb => by
    unfold prs
    rw [ly_bk (by omega) hb (by omega), ly_bk (by omega) hb (by omega), F_bk (by omega) (by omega), F_bk (by omega) (by omega)]
  have hb : bkd (lyK xs L (rwB xs L k) k) n = sumNQ (abT (rwF xs L) ac n) (qB xs L) := by
    have h37 : lyK xs L (rwB xs L k) k 37 = k + 1 := by rw [hE.2.1, e]
    unfold bkd
    rw [h37]
    have s1 : sumNQ (bkdT (lyK xs L (rwB xs L k) k) n) (k + 1) = sumNQ (bkdT (lyK xs L (rwB xs L k) k) n) k + bkdT (lyK xs L (rwB xs L k) k) n k := rfl
    have s2 : bkdT (lyK xs L (rwB xs L k) k) n k = 0 := by
      unfold bkdT
      have := hE.2.2.2.1
      rw [e] at this
      rw [if_neg (fun z => by omega)]
    have s3 : sumNQ (abT (rwF xs L) ac n) (qB xs L) = sumNQ (abT (rwF xs L) ac n) k + sumNQ (fun i => abT (rwF xs L) ac n (k + i)) (qB xs L - k) := by
      rw [← sumN_split, show k + (qB xs L - k) = qB xs L by omega]
    have s4 : sumNQ (fun i => abT (rwF xs L) ac n (k + i)) (qB xs L - k) = 0 := sumN_zero (fun i hi => by
      have e0 : ac (k + i) = nI 0 := by rw [hA]; exact if_neg (by omega)
      exact if_neg (fun z => z.1 e0))
    rw [s1, s2, s3, s4]
    congr 1
    refine sumN_congr (fun i hi => ?_)
    have h8 : bkv (lyK xs L (rwB xs L k) k) i 8 = stK xs L i := by
      rw [hE.2.2.1 i 8 (by omega) (by omega)]
      exact stK_b hi (by omega)
    have hle := stK_le (xs := xs) (L := L) (k := i) (by omega)
    unfold bkdT abT
    rw [h8, hA i, if_pos hi, es i (by omega), ep i (by omega)]
    by_cases z : stK xs L i = 1
    · rw [z]
      by_cases y : staysQ (rwF xs L) i n = true
      · rw [if_pos ⟨rfl, y⟩, if_pos ⟨by decide, y⟩]
      · rw [if_neg (fun w => y w.2), if_neg (fun w => y w.2)]
    · have : stK xs L i = 0 := by omega
      rw [this, if_neg (fun w => by omega), if_neg (fun w => w.1 rfl)]
  unfold capQ capL
  rw [es k (Nat.le_refl _), ep k (Nat.le_refl _), ly_most hk, hb]
theorem canL {ac : Nat → Int32} {k : Nat} (hk : k < qB xs L) (hA : acK xs L k ac) : stK xs L k = b1 (decide (fstN (capL xs L ac k) 30 = 30)) := by
  rw [stK_1 hk]
  have e : canA (lyK xs L (rwB xs L k) k) k = decide (fstN (capL xs L ac k) 30 = 30) := by
    unfold canA
    rw [fstN_congr (q := capL xs L ac k) (fun i hi => cap_eq hk hA)]
  rw [e]
  rfl
theorem and_b1 : ∀ p q : Bool, nI (b1 p) &&& nI (b1 q) = nI (b1 (p && q)) := by decide
theorem narZ : ∀ p : Bool, vp_nar .boolean (nI (b1 p)) = nI (b1 p) := by decide
theorem accepted_h (hL : L ≤ 260) : OkQ (fL_accepted xs L) (fun ac => acK xs L (qB xs L) ac) := by
  have Q := rwB_RQ (xs := xs) (L := L)
  have hB := qB_rng (xs := xs) (L := L)
  have hl := RQ_le Q
  have hS := RQ_st Q
  have hall : allB (rwF xs L) ≤ 20 := by
    have := sumN_le (f := fun r => rmv (rwF xs L) r 1) (c := 5) (n := rwF xs L 4) (fun r hr => (RQ_rm Q hr).2.1.2)
    unfold allB
    have h4 : rwF xs L 4 ≤ 4 := hl.1.2
    omega
  have hS0 : rwF xs L 0 < 40 := hS.1
  have hmul : allB (rwF xs L) * (100 + rwF xs L 0) ≤ 20 * 140 := Nat.mul_le_mul hall (by omega)
  have hmost : most (rwF xs L) ≤ 28 := by unfold most; omega
  unfold fL_accepted
  rw [beds_h hL Q, Option.bind_some, show fL_setting xs L (0 : Int32) = some (nI (rwB xs L (qB xs L) 0)) from setR_h hL Q (i := 0) (by omega), Option.bind_some]
  refine Ok_bind (Q := fun ac => acK xs L (qB xs L) ac) ?_ (fun ac h => Ok_some h)
  refine loop_ok (qB xs L) (fun k (a : Int32 × (Nat → Int32)) => a.1 = nI k ∧ acK xs L k a.2) (by omega) ⟨rfl, fun i => (if_neg (Nat.not_lt_zero i)).symm⟩ (fun k a hk hI => ?_)
  obtain ⟨ai, ac⟩ := a
  obtain ⟨h1, hA⟩ := hI
  try dsimp only at h1 hA
  subst h1
  unfold stL_accepted_24
  rw [bookingsOf_h hL, Option.bind_some]
  try dsimp only
  by_cases hlt : k < qB xs L
  · rw [if_neg (fun z => by have := (nI_leI (by omega) (by omega)).mp z; omega)]
    have hcan := canL hlt hA
    have hle := fstN_le (capL xs L ac k) 30
    have e : loop (stL_accepted_38 xs L (nI k, ac) (nI (allB (rwB xs L (qB xs L)))) (nI (rwB xs L (qB xs L) 0))) 5000 ((1 : Int32), (0 : Int32)) = some (nI (stK xs L k)) := by
      refine loop_st 30 (fun n => (nI (b1 (decide (n ≤ fstN (capL xs L ac k) 30))), nI n)) (by omega) (by rw [decide_eq_true (Nat.zero_le _)] <;> rfl) (fun n hn => ?_) ?_
      · unfold stL_accepted_38
        try dsimp only
        have hbk := abS_le (xs := xs) (L := L) Q (ac := ac) (n := n) (k := qB xs L) (by rw [rwB_37 _ (by omega)]; omega)
        have hp := RQ_bk Q (b := k) (by rw [rwB_37 _ (by omega)]; exact hlt)
        rw [if_neg (fun z => by have := (nI_leI (a := 30) (by omega) (by omega)).mp z; omega), isIn_h hL Q (by rw [rwB_37 _ (by omega)]; exact hlt) (by omega), Option.bind_some, booked_h hL Q ac hn, Option.bind_some, people_h hL Q (by rw [rwB_37 _ (by omega)]; exact hlt), Option.bind_some]
        have em : (nI (allB (rwB xs L (qB xs L))) * ((100 : Int32) + nI (rwB xs L (qB xs L) 0))) / (100 : Int32) = nI (most (rwF xs L)) := by
          rw [show (100 : Int32) + nI (rwB xs L (qB xs L) 0) = nI (100 + rwF xs L 0) from nI_add _ _, pk_mul]
          exact pk_div (a := allB (rwF xs L) * (100 + rwF xs L 0)) (d := 100) (by omega) (by omega) (by omega)
        rw [em, nI_add, rwB_37 _ (by omega)]
        have hgo : ∀ t, nI (b1 t) = nI (b1 (!capL xs L ac k n)) → jL_accepted_79 (nI (b1 (decide (n ≤ fstN (capL xs L ac k) 30))), nI n) (nI (b1 t)) = some (.inl (nI (b1 (decide (n + 1 ≤ fstN (capL xs L ac k) 30))), nI (n + 1))) := by
          intro t ht
          unfold jL_accepted_79
          try dsimp only
          rw [ht, and_b1, show nI n + (1 : Int32) = nI (n + 1) from nI_add _ _]
          have : (decide (n ≤ fstN (capL xs L ac k) 30) && !capL xs L ac k n) = decide (n + 1 ≤ fstN (capL xs L ac k) 30) := by
            by_cases c : capL xs L ac k n = true
            · have := fstN_lt hn c
              rw [c, decide_eq_false (by omega : ¬ n + 1 ≤ fstN (capL xs L ac k) 30)]
              simp
            · have c2 := Bool.eq_false_iff.mpr c
              rw [c2]
              by_cases y : n ≤ fstN (capL xs L ac k) 30
              · have : n ≠ fstN (capL xs L ac k) 30 := fun z => by
                  have := fstN_yes (p := capL xs L ac k) (n := 30) (by omega)
                  rw [← z] at this
                  exact c this
                rw [decide_eq_true y, decide_eq_true (by omega : n + 1 ≤ fstN (capL xs L ac k) 30)]
                rfl
              · rw [decide_eq_false y, decide_eq_false (by omega : ¬ n + 1 ≤ fstN (capL xs L ac k) 30)]
                rfl
          rw [this]
        have ec : capL xs L ac k n = (staysQ (rwB xs L (qB xs L)) k n && decide (most (rwF xs L) < sumNQ (abT (rwB xs L (qB xs L)) ac n) (qB xs L) + prs (rwB xs L (qB xs L)) k)) := rfl
        cases hs : staysQ (rwB xs L (qB xs L)) k n
        · rw [if_pos (b1_0.mpr rfl)]
          exact hgo true (by rw [ec, hs] <;> rfl)
        · rw [if_neg (fun z => Bool.noConfusion (b1_0.mp z))]
          by_cases y : most (rwF xs L) < sumNQ (abT (rwB xs L (qB xs L)) ac n) (qB xs L) + prs (rwB xs L (qB xs L)) k
          · rw [if_pos ((nI_ltI (by omega) (by omega)).mpr y)]
            exact hgo false (by rw [ec, hs, decide_eq_true y] <;> rfl)
          · rw [if_neg (fun z => y ((nI_ltI (by omega) (by omega)).mp z))]
            exact hgo true (by rw [ec, hs, decide_eq_false y] <;> rfl)
      · unfold stL_accepted_38
        try dsimp only
        rw [if_pos (by decide), hcan]
        congr 4
        exact decide_eq_decide.mpr ⟨fun z => by omega, fun z => by omega⟩
    rw [e, Option.bind_some, gd_inb (by omega) (by omega), nI_clamp (by omega)]
    refine Ok_some ⟨hlt, nI_add _ _, fun i => ?_⟩
    show upd ac k (vp_nar .boolean (nI (stK xs L k))) i = _
    rw [hcan, narZ, ← hcan]
    by_cases q : i = k
    · rw [q, pk_us, if_pos (by omega)]
    · rw [pk_un q, hA i]
      by_cases y : i < k
      · rw [if_pos y, if_pos (by omega)]
      · rw [if_neg y, if_neg (by omega)]
  · have e : k = qB xs L := by omega
    rw [if_pos (by rw [e]; exact Int32.le_refl _)]
    exact Ok_some (by rw [← e]; exact hA)
end
