/-! layer 2: the next token -/
def tkK (N : Nat) (B : Nat → Int32) (s : Nat) : Nat := if s < N then (if ltr (B s) = true then (if 8 < lts N B s then 4 else 1) else if dgt (B s) = true then (if 3 < dgs N B s then 4 else 2) else if B s = nI 59 then 3 else 4) else 0
def tkE (N : Nat) (B : Nat → Int32) (s : Nat) : Nat := if s < N then (if ltr (B s) = true then s + lts N B s else if dgt (B s) = true then s + dgs N B s else s + 1) else s
/-- the token at s has been read -/
def TkC (σ : Mem) (N : Nat) (B : Nat → Int32) (s : Nat) : Prop := rI σ 9 0 0 = nI s ∧ rI σ 8 0 0 = nI (tkE N B s) ∧ rI σ 10 0 0 = nI (tkK N B s) ∧ (tkK N B s = 1 → rJ σ 0 0 0 = lN (n8 (lsN B s (lts N B s)))) ∧ (tkK N B s = 2 → rI σ 11 0 0 = vlN B s (dgs N B s))
section
variable {σ μ : Mem} {N a : Nat} {B : Nat → Int32}
theorem skp_le (ha : a ≤ N) : a ≤ skp N B a ∧ skp N B a ≤ N := by
  have := fstN_le (nbl B a) (N - a)
  unfold skp
  omega
theorem advance_h (T : TxC σ N B) (ha : a ≤ N) (h8 : rI σ 8 0 0 = nI a) : OkQ (fX2_advance σ) (fun σ2 => TkC σ2 N B (skp N B a) ∧ FrG (fun k _ _ => 8 ≤ k ∧ k ≤ 11) (fun k _ _ => k = 0) σ σ2) := by
  obtain ⟨σ1, a0, a1, a2⟩ := skipC_h T ha h8
  obtain ⟨s, hs⟩ : ∃ s, s = skp N B a := ⟨_, rfl⟩
  have hle := skp_le (B := B) ha
  rw [← hs] at a1 hle ⊢
  obtain ⟨σ2, hσ2⟩ : ∃ m, m = wI σ1 9 0 0 (nI s) := ⟨_, rfl⟩
  have F2 : FrQ (fun k _ _ => k = 8 ∨ k = 9) σ σ2 := by rw [hσ2]; exact Fr_tr (Fr_mono a2 (fun k j r z => Or.inl z)) (Fr_wI (Or.inr rfl))
  have T2 : TxC σ2 N B := ⟨T.1, by rw [F2.1 7 0 0 (by omega)]; exact T.2.1, fun i hi => by rw [F2.1 6 0 i (by omega)]; exact T.2.2 i hi⟩
  have e8 : rI σ2 8 0 0 = nI s := by rw [hσ2, rI_wI_ne (by omega)]; exact a1
  have e9 : rI σ2 9 0 0 = nI s := by rw [hσ2, rI_wI_self]
  have FG : FrG (fun k _ _ => 8 ≤ k ∧ k ≤ 11) (fun k _ _ => k = 0) σ σ2 := Fr_G (Fr_mono F2 (fun k j r z => by omega))
  have hN := T.1
  unfold fX2_advance jX2_advance_114 jX2_advance_149 jX2_advance_169
  simp only [l_0, l_1, l_3, l_4, l_48, l_57, l_59, l_97, l_122]
  rw [a0, Option.bind_some, a1, ← hσ2, e8, T2.2.1]
  by_cases q : s < N
  · have e6 : rI σ2 6 0 s = B s := T2.2.2 s q
    rw [if_pos (nI_lt q (by omega)), gd_inb (by omega) (by omega), nI_clamp (by omega), e6]
    by_cases ql : ltr (B s) = true
    · obtain ⟨d1, d2⟩ := of_decide_eq_true ql
      have k1 : tkK N B s = if 8 < lts N B s then 4 else 1 := by unfold tkK; rw [if_pos q, if_pos ql]
      have k2 : tkE N B s = s + lts N B s := by unfold tkE; rw [if_pos q, if_pos ql]
      rw [if_neg (Int32.not_lt.mpr d1), if_neg (Int32.not_lt.mpr d2)]
      obtain ⟨σ3, b0, b1', b2, b3, b4⟩ := takeWord_h T2 (by omega) e8 e9
      rw [b0, Option.bind_some]
      refine ⟨_, rfl, ⟨by rw [b4.1 9 0 0 (by omega)]; exact e9, by rw [k2]; exact b1', by rw [k1]; exact b2, fun z => b3 ?_, fun z => ?_⟩, FrG_tr FG (FrG_mono b4 (fun k j r z => by omega) (fun k j r z => z))⟩
      · rw [k1] at z
        by_cases y : 8 < lts N B s
        · rw [if_pos y] at z; exact absurd z (by decide)
        · omega
      · rw [k1] at z
        by_cases y : 8 < lts N B s
        · rw [if_pos y] at z; exact absurd z (by decide)
        · rw [if_neg y] at z; exact absurd z (by decide)
    · have nl := of_decide_eq_false (Bool.eq_false_iff.mpr ql)
      have fin : ∀ x : Option Mem, OkQ x (fun σ2 => TkC σ2 N B s ∧ FrG (fun k _ _ => 8 ≤ k ∧ k ≤ 11) (fun k _ _ => k = 0) σ σ2) → OkQ (if B s < nI 97 then x else (if nI 122 < B s then x else ((fX2_takeWord σ2).bind fun q3 => some q3))) (fun σ2 => TkC σ2 N B s ∧ FrG (fun k _ _ => 8 ≤ k ∧ k ≤ 11) (fun k _ _ => k = 0) σ σ2) := by
        intro x hx
        by_cases z : B s < nI 97
        · rw [if_pos z]; exact hx
        · by_cases z2 : nI 122 < B s
          · rw [if_neg z, if_pos z2]; exact hx
          · exact absurd ⟨Int32.not_lt.mp z, Int32.not_lt.mp z2⟩ nl
      refine fin _ ?_
      by_cases qd : dgt (B s) = true
      · obtain ⟨d1, d2⟩ := of_decide_eq_true qd
        have k1 : tkK N B s = if 3 < dgs N B s then 4 else 2 := by unfold tkK; rw [if_pos q, if_neg ql, if_pos qd]
        have k2 : tkE N B s = s + dgs N B s := by unfold tkE; rw [if_pos q, if_neg ql, if_pos qd]
        rw [if_neg (Int32.not_lt.mpr d1), if_neg (Int32.not_lt.mpr d2)]
        obtain ⟨σ3, b0, b1', b2, b3, b4⟩ := takeNum_h T2 (by omega) e8 e9
        rw [b0, Option.bind_some]
        refine ⟨_, rfl, ⟨by rw [b4.1 9 0 0 (by omega)]; exact e9, by rw [k2]; exact b1', by rw [k1]; exact b2, fun z => ?_, fun z => b3⟩, FrG_tr FG (Fr_G (Fr_mono b4 (fun k j r z => by omega)))⟩
        rw [k1] at z
        by_cases y : 3 < dgs N B s
        · rw [if_pos y] at z; exact absurd z (by decide)
        · rw [if_neg y] at z; exact absurd z (by decide)
      · have nd := of_decide_eq_false (Bool.eq_false_iff.mpr qd)
        have k2 : tkE N B s = s + 1 := by unfold tkE; rw [if_pos q, if_neg ql, if_neg qd]
        have fin2 : ∀ x : Option Mem, OkQ x (fun σ2 => TkC σ2 N B s ∧ FrG (fun k _ _ => 8 ≤ k ∧ k ≤ 11) (fun k _ _ => k = 0) σ σ2) → OkQ (if B s < nI 48 then x else (if nI 57 < B s then x else ((fX2_takeNumber σ2).bind fun q3 => some q3))) (fun σ2 => TkC σ2 N B s ∧ FrG (fun k _ _ => 8 ≤ k ∧ k ≤ 11) (fun k _ _ => k = 0) σ σ2) := by
          intro x hx
          by_cases z : B s < nI 48
          · rw [if_pos z]; exact hx
          · by_cases z2 : nI 57 < B s
            · rw [if_neg z, if_pos z2]; exact hx
            · exact absurd ⟨Int32.not_lt.mp z, Int32.not_lt.mp z2⟩ nd
        refine fin2 _ ?_
        have fin3 : ∀ v, tkK N B s = v → (v = 3 ∨ v = 4) → OkQ (some (wI (wI σ2 10 0 0 (nI v)) 8 0 0 (rI (wI σ2 10 0 0 (nI v)) 8 0 0 + nI 1)) : Option Mem) (fun σ2 => TkC σ2 N B s ∧ FrG (fun k _ _ => 8 ≤ k ∧ k ≤ 11) (fun k _ _ => k = 0) σ σ2) := by
          intro v hv hv2
          rw [rI_wI_ne (by omega), e8, nI_add]
          refine ⟨_, rfl, ⟨by rw [rI_wI_ne (by omega), rI_wI_ne (by omega)]; exact e9, by rw [k2, rI_wI_self], by rw [hv, rI_wI_ne (by omega), rI_wI_self], fun z => by omega, fun z => by omega⟩, FrG_tr FG (Fr_G (Fr_tr (Fr_wI (by omega)) (Fr_wI (by omega))))⟩
        by_cases q9 : B s = nI 59
        · rw [if_neg (fun w => w q9)]
          exact fin3 3 (by unfold tkK; rw [if_pos q, if_neg ql, if_neg qd, if_pos q9]) (Or.inl rfl)
        · rw [if_pos q9]
          exact fin3 4 (by unfold tkK; rw [if_pos q, if_neg ql, if_neg qd, if_neg q9]) (Or.inr rfl)
  · have k1 : tkK N B s = 0 := by unfold tkK; rw [if_neg q]
    have k2 : tkE N B s = s := by unfold tkE; rw [if_neg q]
    rw [if_neg (nI_nlt (by omega) (by omega))]
    refine ⟨_, rfl, ⟨by rw [rI_wI_ne (by omega)]; exact e9, by rw [k2, rI_wI_ne (by omega)]; exact e8, by rw [k1, rI_wI_self], fun z => by omega, fun z => by omega⟩, FrG_tr FG (FrG_wI (by omega))⟩
end
