/-! layer 2: names told apart -/
def okL (r : List Nat) : Prop := ∀ l, l ∈ r → 1 ≤ l ∧ l ≤ 26
theorem n8_inj : ∀ (r s : List Nat), okL r → okL s → n8 r.reverse = n8 s.reverse → r = s := by
  intro r
  induction r with
  | nil =>
    intro s _ hs h
    cases s with
    | nil => rfl
    | cons x s =>
      rw [List.reverse_cons, n8_snoc] at h
      have h' : 0 = n8 s.reverse * 256 + (96 + x) := h
      omega
  | cons l r ih =>
    intro s hr hs h
    cases s with
    | nil =>
      rw [List.reverse_cons, n8_snoc] at h
      have h' : n8 r.reverse * 256 + (96 + l) = 0 := h
      omega
    | cons x s =>
      rw [List.reverse_cons, List.reverse_cons, n8_snoc, n8_snoc] at h
      have h1 := hr l List.mem_cons_self
      have h2 := hs x List.mem_cons_self
      rw [ih s (fun y hy => hr y (List.mem_cons_of_mem _ hy)) (fun y hy => hs y (List.mem_cons_of_mem _ hy)) (by omega), show l = x by omega]
theorem n5_inj : ∀ (r s : List Nat), okL r → okL s → n5Q r.reverse = n5Q s.reverse → r = s := by
  intro r
  induction r with
  | nil =>
    intro s _ hs h
    cases s with
    | nil => rfl
    | cons x s =>
      rw [List.reverse_cons, n5_snoc] at h
      have h' : 0 = n5Q s.reverse * 32 + x := h
      have h2 := hs x List.mem_cons_self
      omega
  | cons l r ih =>
    intro s hr hs h
    have h1 := hr l List.mem_cons_self
    cases s with
    | nil =>
      rw [List.reverse_cons, n5_snoc] at h
      have h' : n5Q r.reverse * 32 + l = 0 := h
      omega
    | cons x s =>
      rw [List.reverse_cons, List.reverse_cons, n5_snoc, n5_snoc] at h
      have h2 := hs x List.mem_cons_self
      rw [ih s (fun y hy => hr y (List.mem_cons_of_mem _ hy)) (fun y hy => hs y (List.mem_cons_of_mem _ hy)) (by omega), show l = x by omega]
theorem lN_inj {a b : Nat} (ha : a < 2 ^ 64) (hb : b < 2 ^ 64) (h : lN a = lN b) : a = b := by
  have h' : (BitVec.ofNat 64 a).toNat = (BitVec.ofNat 64 b).toNat := congrArg (fun x : Int64 => x.toBitVec.toNat) h
  rw [BitVec.toNat_ofNat, BitVec.toNat_ofNat, Nat.mod_eq_of_lt ha, Nat.mod_eq_of_lt hb] at h'
  exact h'
theorem n8_64 {ls : List Nat} (h : okL ls) (hl : ls.length ≤ 8) : n8 ls < 2 ^ 64 ∧ n5Q ls < 2 ^ 64 := by
  have h1 := n8_lt ls.reverse (fun l hl => h l (List.mem_reverse.mp hl))
  have h2 := n5_lt ls.reverse (fun l hl => h l (List.mem_reverse.mp hl))
  rw [List.reverse_reverse, List.length_reverse] at h1 h2
  exact ⟨Nat.lt_of_lt_of_le h1 (show 256 ^ ls.length ≤ 2 ^ 64 from Nat.pow_le_pow_right (n := 256) (by omega) hl), Nat.lt_of_lt_of_le h2 (Nat.le_trans (show 32 ^ ls.length ≤ 32 ^ 8 from Nat.pow_le_pow_right (by omega) hl) (by decide))⟩
/-- one name or two, on both sides alike -/
theorem NM_eq {c m c2 m2 : Int64} (h : NMq c m) (h2 : NMq c2 m2) : c = c2 ↔ m = m2 := by
  obtain ⟨ls, a1, a2, rfl, rfl⟩ := h
  obtain ⟨ls2, b1', b2, rfl, rfl⟩ := h2
  have r1 : okL ls.reverse := fun l hl => a2 l (List.mem_reverse.mp hl)
  have r2 : okL ls2.reverse := fun l hl => b2 l (List.mem_reverse.mp hl)
  have x1 := n8_64 a2 a1
  have x2 := n8_64 b2 b1'
  constructor
  · intro e
    have e1 := lN_inj x1.1 x2.1 e
    have := n8_inj ls.reverse ls2.reverse r1 r2 (by rw [List.reverse_reverse, List.reverse_reverse]; exact e1)
    rw [List.reverse_inj.mp this]
  · intro e
    have e1 := lN_inj x1.2 x2.2 e
    have := n5_inj ls.reverse ls2.reverse r1 r2 (by rw [List.reverse_reverse, List.reverse_reverse]; exact e1)
    rw [List.reverse_inj.mp this]
theorem NM_0 {c m : Int64} (h : NMq c m) : c = 0 ↔ m = 0 := NM_eq h NM0
theorem NMr_q {c m : Int64} (h : NMr c m) : NMq c m := by
  obtain ⟨ls, -, h1⟩ := h
  exact ⟨ls, h1⟩
theorem NMr_0 {c m : Int64} (h : NMr c m) : c ≠ 0 := by
  obtain ⟨ls, h0, h1, h2, rfl, -⟩ := h
  intro e
  have x := n8_64 h2 h1
  have e1 : n8 ls = 0 := lN_inj x.1 (by omega) (e.trans (show (0 : Int64) = lN 0 from by decide +kernel))
  have := n8_inj ls.reverse [] (fun l hl => h2 l (List.mem_reverse.mp hl)) (fun l hl => absurd hl List.not_mem_nil) (by rw [List.reverse_reverse, e1] <;> rfl)
  exact h0 (List.reverse_eq_nil_iff.mp this)
