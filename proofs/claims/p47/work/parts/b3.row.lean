/-! p47, layer 2: the row that is read, statement by statement -/
def rwR (xs : Nat → Int32) (L : Nat) : Nat → RwQ
  | 0 => ρe
  | i + 1 => rmN (rwR xs L i) (qM xs L i 0) (qM xs L i 1) (qM xs L i 2) (qM xs L i 3)
def rwS (xs : Nat → Int32) (L : Nat) : RwQ := upQ (upQ (upQ (upQ (rwR xs L (qR xs L)) 0 (qS xs L 0)) 1 (qS xs L 1)) 2 (qS xs L 2)) 3 (qS xs L 3)
def lyK (xs : Nat → Int32) (L : Nat) (ρ : RwQ) (k : Nat) : RwQ := lyT ρ (qK xs L k 0) (qK xs L k 1) (qK xs L k 2) (qK xs L k 3) (qK xs L k 4) (qK xs L k 5) (qK xs L k 6)
def rwB (xs : Nat → Int32) (L : Nat) : Nat → RwQ
  | 0 => rwS xs L
  | k + 1 => cms (lyK xs L (rwB xs L k) k) k
section
variable {xs : Nat → Int32} {L : Nat} {ls q : List Nat} {j : Nat}
theorem rwR_4 : ∀ i, rwR xs L i 4 = i := by
  intro i
  induction i with
  | zero => rfl
  | succ i ih =>
    show rmN (rwR xs L i) _ _ _ _ 4 = _
    rw [rmN_4, ih]
theorem rwR_hi : ∀ i, i ≤ 8 → ∀ k, 37 ≤ k → rwR xs L i k = 0 := by
  intro i
  induction i with
  | zero =>
    intro _ k hk
    show (if k = 1 then 60 else if k = 2 then 7 else if k = 3 then 10 else 0) = 0
    rw [if_neg (by omega), if_neg (by omega), if_neg (by omega)]
  | succ i ih =>
    intro hi k hk
    show rmN (rwR xs L i) _ _ _ _ k = _
    rw [rmN_hi (by rw [rwR_4]; omega) hk]
    exact ih (by omega) k hk
theorem rwR_rm : ∀ i, i ≤ 8 → ∀ r w, r < i → w < 4 → rmv (rwR xs L i) r w = qM xs L r w := by
  intro i
  induction i with
  | zero => intro _ r w hr; omega
  | succ i ih =>
    intro hi r w hr hw
    show rmv (rmN (rwR xs L i) _ _ _ _) r w = _
    have n := rmN_new (ρ := rwR xs L i) (k := qM xs L i 0) (b := qM xs L i 1) (a := qM xs L i 2) (p := qM xs L i 3)
    rw [rwR_4] at n
    by_cases e : r = i
    · subst e
      have : w = 0 ∨ w = 1 ∨ w = 2 ∨ w = 3 := by omega
      rcases this with rfl | rfl | rfl | rfl
      · exact n.1
      · exact n.2.1
      · exact n.2.2.1
      · exact n.2.2.2
    · rw [rmN_old (by rw [rwR_4]; omega) hw]
      exact ih (by omega) r w (by omega) hw
theorem rwS_lo : (∀ i, i < 4 → rwS xs L i = qS xs L i) ∧ (∀ k, 4 ≤ k → rwS xs L k = rwR xs L (qR xs L) k) := by
  refine ⟨fun i hi => ?_, fun k hk => ?_⟩
  · have : i = 0 ∨ i = 1 ∨ i = 2 ∨ i = 3 := by omega
    rcases this with rfl | rfl | rfl | rfl
    · rfl
    · rfl
    · rfl
    · rfl
  · unfold rwS
    rw [up_n (by omega), up_n (by omega), up_n (by omega), up_n (by omega)]
theorem rwB_37 : ∀ k, k ≤ 16 → rwB xs L k 37 = k := by
  intro k
  induction k with
  | zero =>
    intro _
    show rwS xs L 37 = 0
    have hR := qR_rng (xs := xs) (L := L)
    rw [rwS_lo.2 37 (by omega), rwR_hi _ (by omega) 37 (by omega)]
  | succ k ih =>
    intro hk
    show cms (lyK xs L (rwB xs L k) k) k 37 = _
    have e := ih (by omega)
    have hE : ExtQ (rwB xs L k) (lyK xs L (rwB xs L k) k) := lyT_ext (by omega)
    rw [(cms_same (by omega)).1 37 (by omega), hE.2.1, e]
theorem rwB_lo : ∀ k, k ≤ 16 → ∀ i, i < 37 → rwB xs L k i = rwS xs L i := by
  intro k
  induction k with
  | zero => intro _ i _; rfl
  | succ k ih =>
    intro hk i hi
    show cms (lyK xs L (rwB xs L k) k) k i = _
    have e := rwB_37 (xs := xs) (L := L) k (by omega)
    have hE : ExtQ (rwB xs L k) (lyK xs L (rwB xs L k) k) := lyT_ext (by omega)
    rw [(cms_same (by omega)).1 i (by omega), hE.1 i hi]
    exact ih (by omega) i hi
theorem rwB_bk : ∀ k, k ≤ 16 → ∀ b w, b < k → w < 7 → bkv (rwB xs L k) b w = qK xs L b w := by
  intro k
  induction k with
  | zero => intro _ b w hb; omega
  | succ k ih =>
    intro hk b w hb hw
    show bkv (cms (lyK xs L (rwB xs L k) k) k) b w = _
    have e := rwB_37 (xs := xs) (L := L) k (by omega)
    have hE : ExtQ (rwB xs L k) (lyK xs L (rwB xs L k) k) := lyT_ext (by omega)
    rw [(cms_same (by omega)).2 b w (by omega) (by omega)]
    by_cases q : b = k
    · subst q
      have t : bkv (lyK xs L (rwB xs L b) b) (rwB xs L b 37) w = _ := lyT_bk (by omega)
      rw [layB_bk (by omega), if_pos rfl, e] at t
      rw [t]
      have : w = 0 ∨ w = 1 ∨ w = 2 ∨ w = 3 ∨ w = 4 ∨ w = 5 ∨ w = 6 := by omega
      rcases this with rfl | rfl | rfl | rfl | rfl | rfl | rfl <;> rfl
    · rw [hE.2.2.1 b w (by omega) (by omega)]
      exact ih (by omega) b w (by omega) hw
theorem rwB_RQ : RQ xs L (rwB xs L (qB xs L)) := by
  have hR := qR_rng (xs := xs) (L := L)
  have hB := qB_rng (xs := xs) (L := L)
  have e4 : rwB xs L (qB xs L) 4 = qR xs L := by rw [rwB_lo _ (by omega) 4 (by omega), rwS_lo.2 4 (by omega), rwR_4]
  refine ⟨e4, rwB_37 _ (by omega), fun i hi => by rw [rwB_lo _ (by omega) i (by omega), rwS_lo.1 i hi], fun r w hr hw => ?_, fun b w hb hw => ?_⟩
  · rw [e4] at hr
    show rwB xs L (qB xs L) (5 + 4 * r + w) = _
    rw [rwB_lo _ (by omega) _ (by omega), rwS_lo.2 _ (by omega)]
    exact rwR_rm _ (by omega) r w hr hw
  · rw [rwB_37 _ (by omega)] at hb
    exact rwB_bk _ (by omega) b w hb hw
end
