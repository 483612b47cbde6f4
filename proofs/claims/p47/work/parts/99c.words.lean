/-! layer 2: words told apart on both sides -/
def txW (i : Nat) : List Nat := [[18, 15, 15, 13], [13, 9, 24, 5, 4], [23, 15, 13, 5, 14], [13, 5, 14], [2, 15, 15, 11], [20, 15, 7, 5, 20, 8, 5, 18], [3, 1, 14, 3, 5, 12], [1, 2, 19, 5, 14, 20], [15, 22, 5, 18], [23, 1, 12, 11], [15, 6, 6, 5, 18]].getD i []
theorem txW_len : ∀ i, i < 11 → fJ0_length_8abf5 i = some (nI (txW i).length) ∧ (txW i).length ≤ 8 := by decide +kernel
theorem txW_ch : ∀ i, i < 11 → ∀ k, k < (txW i).length → fJ0_charAt_5068e i (nI k) = some (nI (96 + (txW i).getD k 0)) := by decide +kernel
theorem txW_b : ∀ i, i < 11 → ∀ l, l ∈ txW i → 1 ≤ l ∧ l ≤ 26 := by decide +kernel
def isw (N : Nat) (B : Nat → Int32) (s : Nat) (w : List Nat) : Bool := decide (tkK N B s = 1 ∧ lsN B s (lts N B s) = w)
theorem lsN_len (B : Nat → Int32) (s : Nat) : ∀ n, (lsN B s n).length = n := by
  intro n
  induction n with
  | zero => rfl
  | succ n ih =>
    show (lsN B s n ++ [_]).length = _
    rw [List.length_append, ih] <;> rfl
theorem lsN_get (B : Nat → Int32) (s : Nat) : ∀ n k, k < n → (lsN B s n)[k]? = some ((B (s + k)).toInt.toNat - 96) := by
  intro n
  induction n with
  | zero => intro k hk; omega
  | succ n ih =>
    intro k hk
    show (lsN B s n ++ [(B (s + n)).toInt.toNat - 96])[k]? = _
    rw [List.getElem?_append, lsN_len]
    by_cases z : k < n
    · rw [if_pos z]; exact ih k z
    · have e : k = n := by omega
      rw [if_neg z, e, Nat.sub_self] <;> rfl
theorem nI_dig {l : Nat} (h : l ≤ 26) : (nI (96 + l)).toInt.toNat - 96 = l := by
  rw [nI_toInt (by omega)]; omega
theorem lsN_w {B : Nat → Int32} {s : Nat} {w : List Nat} (hw : ∀ l, l ∈ w → 1 ≤ l ∧ l ≤ 26) (hl : ∀ k, k < w.length → ltr (B (s + k)) = true) : lsN B s w.length = w ↔ ∀ k, k < w.length → B (s + k) = nI (96 + w.getD k 0) := by
  constructor
  · intro e k hk
    have h1 := lsN_get B s w.length k hk
    rw [e] at h1
    obtain ⟨l, l1, l2, l3, l4⟩ := ltr_n (hl k hk)
    rw [l3, List.getD_eq_getElem?_getD, h1, l4] <;> rfl
  · intro h
    apply List.ext_getElem?
    intro i
    by_cases z : i < w.length
    · rw [lsN_get B s _ i z, h i z]
      have h1 : w[i]? = some (w.getD i 0) := by rw [List.getD_eq_getElem?_getD, List.getElem?_eq_getElem z] <;> rfl
      have h2 : w.getD i 0 ∈ w := List.mem_of_getElem? h1
      rw [h1, nI_dig (hw _ h2).2]
    · rw [List.getElem?_eq_none (by rw [lsN_len]; omega), List.getElem?_eq_none (by omega)]
section
variable {σ μ : Mem} {N s : Nat} {B : Nat → Int32}
theorem tk_word (h : tkK N B s = 1) : s < N ∧ 1 ≤ lts N B s ∧ lts N B s ≤ 8 ∧ tkE N B s = s + lts N B s ∧ s + lts N B s ≤ N ∧ ∀ k, k < lts N B s → ltr (B (s + k)) = true := by
  by_cases q : s < N
  · have hle : lts N B s ≤ N - s := fstN_le (nlt N B s) (N - s)
    by_cases ql : ltr (B s) = true
    · have k1 : tkK N B s = if 8 < lts N B s then 4 else 1 := by unfold tkK; rw [if_pos q, if_pos ql]
      have k2 : tkE N B s = s + lts N B s := by unfold tkE; rw [if_pos q, if_pos ql]
      rw [k1] at h
      refine ⟨q, ?_, ?_, k2, by omega, fun k hk => ?_⟩
      · by_cases z : lts N B s = 0
        · have := fstN_yes (p := nlt N B s) (n := N - s) (by unfold lts at z; omega)
          rw [show fstN (nlt N B s) (N - s) = 0 from z] at this
          unfold nlt btA at this
          rw [Nat.add_zero, if_pos q, ql] at this
          exact absurd this (by decide)
        · omega
      · by_cases y : 8 < lts N B s
        · rw [if_pos y] at h; exact absurd h (by decide)
        · omega
      · have := fstN_no (p := nlt N B s) (n := N - s) (i := k) hk
        unfold nlt btA at this
        rw [if_pos (by omega)] at this
        simpa using this
    · have k1 : tkK N B s = if dgt (B s) = true then (if 3 < dgs N B s then 4 else 2) else if B s = nI 59 then 3 else 4 := by unfold tkK; rw [if_pos q, if_neg ql]
      rw [k1] at h
      by_cases qd : dgt (B s) = true
      · rw [if_pos qd] at h
        by_cases y : 3 < dgs N B s
        · rw [if_pos y] at h; exact absurd h (by decide)
        · rw [if_neg y] at h; exact absurd h (by decide)
      · rw [if_neg qd] at h
        by_cases y : B s = nI 59
        · rw [if_pos y] at h; exact absurd h (by decide)
        · rw [if_neg y] at h; exact absurd h (by decide)
  · have k1 : tkK N B s = 0 := by unfold tkK; rw [if_neg q]
    rw [k1] at h; exact absurd h (by decide)
theorem isw_h (R : RdC σ N B s) {i : Nat} (hi : i < 11) : fX2_isWord i σ = some (nI (b1 (isw N B s (txW i)))) := by
  obtain ⟨T, hs, t1, t2, t3, t4, t5⟩ := R
  have h4 := tkK_le N B s
  have hN := T.1
  obtain ⟨w, hw⟩ : ∃ w, w = txW i := ⟨_, rfl⟩
  obtain ⟨w1, w2⟩ := txW_len i hi
  have w3 := txW_ch i hi
  have w4 := txW_b i hi
  rw [← hw] at w1 w2 w3 w4 ⊢
  unfold fX2_isWord
  simp only [l_0, l_1]
  rw [t3]
  by_cases z : tkK N B s = 1
  · obtain ⟨x1, x2, x3, x4, x5, x6⟩ := tk_word z
    rw [if_neg (fun y => y (by rw [z])), w1, Option.bind_some, t2, t1, x4, pk_sub (by omega), show s + lts N B s - s = lts N B s by omega]
    by_cases hl : lts N B s = w.length
    · rw [if_pos (by rw [hl])]
      rw [hl] at x5 x6
      obtain ⟨p, hp⟩ : ∃ p : Nat → Bool, p = fun k => decide (¬ B (s + k) = nI (96 + w.getD k 0)) := ⟨_, rfl⟩
      have hle := fstN_le p w.length
      obtain ⟨k, hk⟩ : ∃ k, k = fstN p w.length := ⟨_, rfl⟩
      have e : loop (stX2_isWord_28 i σ) 5000 (nI 0) = some (if k < w.length then .inr (nI 0) else .inl ()) := by
        refine loop_st k (fun i => nI i) (by omega) rfl ?_ ?_
        · intro x hx
          have hpx : p x = false := fstN_no (by rw [← hk]; exact hx)
          have hpx2 : B (s + x) = nI (96 + w.getD x 0) := by
            rw [hp] at hpx
            simpa using hpx
          unfold stX2_isWord_28
          simp only [l_0, l_1]
          rw [w1, Option.bind_some, if_neg (nI_ge (by omega) (by omega)), t1, nI_add, gd_inb (by omega) (by omega), w3 x (by omega), Option.bind_some, nI_clamp (by omega), T.2.2 _ (by omega), if_pos hpx2, nI_add]
        · unfold stX2_isWord_28
          simp only [l_0, l_1]
          rw [w1, Option.bind_some]
          by_cases hkn : k < w.length
          · have hpx : p k = true := by rw [hk]; exact fstN_yes (by rw [← hk]; exact hkn)
            have hpx2 : ¬ B (s + k) = nI (96 + w.getD k 0) := by
              rw [hp] at hpx
              simpa using hpx
            rw [if_neg (nI_ge (by omega) (by omega)), t1, nI_add, gd_inb (by omega) (by omega), w3 k (by omega), Option.bind_some, nI_clamp (by omega), T.2.2 _ (by omega), if_neg hpx2, if_pos hkn]
          · rw [if_pos (nI_le (by omega) (by omega)), if_neg hkn]
      rw [e, Option.bind_some]
      have hall : lsN B s w.length = w ↔ ¬ k < w.length := by
        rw [lsN_w w4 x6]
        constructor
        · intro h hkn
          have hpx : p k = true := by rw [hk]; exact fstN_yes (by rw [← hk]; exact hkn)
          rw [hp] at hpx
          have hpx2 : ¬ B (s + k) = nI (96 + w.getD k 0) := by simpa using hpx
          exact hpx2 (h k hkn)
        · intro h x hx
          have hpx : p x = false := fstN_no (by rw [← hk]; omega)
          rw [hp] at hpx
          simpa using hpx
      by_cases hkn : k < w.length
      · rw [if_pos hkn, show isw N B s w = false from decide_eq_false (fun y => hall.mp (by rw [← hl]; exact y.2) hkn)] <;> rfl
      · rw [if_neg hkn, show isw N B s w = true from decide_eq_true ⟨z, by rw [hl]; exact hall.mpr hkn⟩] <;> rfl
    · rw [if_neg (nI_ne (by omega) (by omega) hl), show isw N B s w = false from decide_eq_false (fun y => hl (by have h := congrArg List.length y.2; rw [lsN_len] at h; exact h))] <;> rfl
  · rw [if_pos (nI_ne (by omega) (by omega) z), show isw N B s w = false from decide_eq_false (fun y => z y.1)] <;> rfl
theorem n5_eq {v w : List Nat} (h1 : okL v) (h2 : okL w) (l1 : v.length ≤ 8) (l2 : w.length ≤ 8) : lN (n5Q v) = lN (n5Q w) ↔ v = w := by
  constructor
  · intro e
    have e1 := lN_inj (n8_64 h1 l1).2 (n8_64 h2 l2).2 e
    have := n5_inj v.reverse w.reverse (fun l hl => h1 l (List.mem_reverse.mp hl)) (fun l hl => h2 l (List.mem_reverse.mp hl)) (by rw [List.reverse_reverse, List.reverse_reverse]; exact e1)
    exact List.reverse_inj.mp this
  · intro e; rw [e]
def kdT (N : Nat) (B : Nat → Int32) (s : Nat) : Nat := if isw N B s (txW 1) = true then 0 else if isw N B s (txW 2) = true then 1 else if isw N B s (txW 3) = true then 2 else 3
def kdI (k : Nat) : Int32 := if k = 3 then -nI 1 else nI k
theorem kind_h (R : RdC σ N B s) : fX2_kindTold σ = some (kdI (kdT N B s)) := by
  unfold fX2_kindTold kdT
  simp only [l_0, l_1, l_2]
  rw [isw_h R (by omega), isw_h R (by omega), isw_h R (by omega)]
  cases isw N B s (txW 1) <;> cases isw N B s (txW 2) <;> cases isw N B s (txW 3) <;> decide +kernel
end
