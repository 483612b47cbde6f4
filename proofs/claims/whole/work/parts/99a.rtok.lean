/-! layer 2: the reference's next token -/
section
variable {σ μ : Mem} {N a s : Nat} {B : Nat → Int32}
theorem vl_min {d : Nat} (h : (if 3 < d then 4 else 2) = 2) : min d 3 = d := by
  by_cases z : 3 < d
  · rw [if_pos z] at h; omega
  · omega
theorem tkE_le (hs : s ≤ N) : s ≤ tkE N B s ∧ tkE N B s ≤ N := by
  unfold tkE
  by_cases q : s < N
  · rw [if_pos q]
    have h1 : lts N B s ≤ N - s := fstN_le (nlt N B s) (N - s)
    have h2 : dgs N B s ≤ N - s := fstN_le (ndg N B s) (N - s)
    by_cases ql : ltr (B s) = true
    · rw [if_pos ql]; omega
    · rw [if_neg ql]
      by_cases qd : dgt (B s) = true
      · rw [if_pos qd]; omega
      · rw [if_neg qd]; omega
  · rw [if_neg q]; omega
theorem readToken_s (T : TxR μ N B) (ha : a ≤ N) (h8 : rI μ 71 0 0 = nI a) : OkQ (fX6_readToken μ) (fun μ2 => TkR μ2 N B (skp N B a) ∧ FrG (fun k _ _ => 71 ≤ k ∧ k ≤ 74) (fun k _ _ => k = 10) μ μ2) := by
  obtain ⟨μ1, a0, a1, a2⟩ := skipR_s T ha h8
  obtain ⟨s, hs⟩ : ∃ s, s = skp N B a := ⟨_, rfl⟩
  have hle := skp_le (B := B) ha
  rw [← hs] at a1 hle ⊢
  obtain ⟨μ2, hμ2⟩ : ∃ m, m = wI μ1 72 0 0 (nI s) := ⟨_, rfl⟩
  have F2 : FrQ (fun k _ _ => k = 71 ∨ k = 72) μ μ2 := by rw [hμ2]; exact Fr_tr (Fr_mono a2 (fun k j r z => Or.inl z)) (Fr_wI (Or.inr rfl))
  have T2 : TxR μ2 N B := ⟨T.1, by rw [F2.1 70 0 0 (by omega)]; exact T.2.1, fun i hi => by rw [F2.1 65 0 i (by omega)]; exact T.2.2 i hi⟩
  have e8 : rI μ2 71 0 0 = nI s := by rw [hμ2, rI_wI_ne (by omega)]; exact a1
  have e9 : rI μ2 72 0 0 = nI s := by rw [hμ2, rI_wI_self]
  have FG : FrG (fun k _ _ => 71 ≤ k ∧ k ≤ 74) (fun k _ _ => k = 10) μ μ2 := Fr_G (Fr_mono F2 (fun k j r z => by omega))
  have hN := T.1
  unfold fX6_readToken jX6_readToken_111
  simp only [l_0, l_1, l_3, l_4, l_59]
  rw [a0, Option.bind_some, a1, ← hμ2, e8, T2.2.1]
  by_cases q : s < N
  · rw [if_pos (nI_lt q (by omega)), isLetter_s T2 (by omega), Option.bind_some]; simp (disch := omega) only [b1_z]
    have eb : btA N B s = B s := if_pos q
    rw [eb]
    by_cases ql : ltr (B s) = true
    · have k1 : tkK N B s = if 8 < lts N B s then 4 else 1 := by unfold tkK; rw [if_pos q, if_pos ql]
      have k2 : tkE N B s = s + lts N B s := by unfold tkE; rw [if_pos q, if_pos ql]
      rw [if_neg (by rw [ql]; decide)]
      obtain ⟨μ3, b0, b1', b2, b3, b4⟩ := readWord_s T2 (by omega) e8
      rw [b0, Option.bind_some]
      refine ⟨_, rfl, ⟨by rw [b4.1 72 0 0 (by omega)]; exact e9, by rw [k2]; exact b1', by rw [k1]; exact b2, fun z => b3 ?_, fun z => ?_⟩, FrG_tr FG (FrG_mono b4 (fun k j r z => by omega) (fun k j r z => z))⟩
      · rw [k1] at z
        by_cases y : 8 < lts N B s
        · rw [if_pos y] at z; exact absurd z (by decide)
        · omega
      · rw [k1] at z
        by_cases y : 8 < lts N B s
        · rw [if_pos y] at z; exact absurd z (by decide)
        · rw [if_neg y] at z; exact absurd z (by decide)
    · rw [if_pos (Bool.eq_false_iff.mpr ql), isDigit_s T2 (by omega), Option.bind_some]; simp (disch := omega) only [b1_z]; rw [eb]
      by_cases qd : dgt (B s) = true
      · have k1 : tkK N B s = if 3 < dgs N B s then 4 else 2 := by unfold tkK; rw [if_pos q, if_neg ql, if_pos qd]
        have k2 : tkE N B s = s + dgs N B s := by unfold tkE; rw [if_pos q, if_neg ql, if_pos qd]
        rw [if_neg (by rw [qd]; decide)]
        obtain ⟨μ3, b0, b1', b2, b3, b4⟩ := readNum_s T2 (by omega) e8
        rw [b0, Option.bind_some]
        refine ⟨_, rfl, ⟨by rw [b4.1 72 0 0 (by omega)]; exact e9, by rw [k2]; exact b1', by rw [k1]; exact b2, fun z => ?_, fun z => ?_⟩, FrG_tr FG (Fr_G (Fr_mono b4 (fun k j r z => by omega)))⟩
        · rw [k1] at z
          by_cases y : 3 < dgs N B s
          · rw [if_pos y] at z; exact absurd z (by decide)
          · rw [if_neg y] at z; exact absurd z (by decide)
        · rw [k1] at z
          rw [b3, vl_min z]
      · have k2 : tkE N B s = s + 1 := by unfold tkE; rw [if_pos q, if_neg ql, if_neg qd]
        rw [if_pos (Bool.eq_false_iff.mpr qd), byteAt_s T2 (by omega), Option.bind_some, eb]
        have fin3 : ∀ v, tkK N B s = v → (v = 3 ∨ v = 4) → OkQ (some (wI (wI μ2 73 0 0 (nI v)) 71 0 0 (rI (wI μ2 73 0 0 (nI v)) 71 0 0 + nI 1)) : Option Mem) (fun μ2 => TkR μ2 N B s ∧ FrG (fun k _ _ => 71 ≤ k ∧ k ≤ 74) (fun k _ _ => k = 10) μ μ2) := by
          intro v hv hv2
          rw [rI_wI_ne (by omega), e8, nI_add]
          refine ⟨_, rfl, ⟨by rw [rI_wI_ne (by omega), rI_wI_ne (by omega)]; exact e9, by rw [k2, rI_wI_self], by rw [hv, rI_wI_ne (by omega), rI_wI_self], fun z => by omega, fun z => by omega⟩, FrG_tr FG (Fr_G (Fr_tr (Fr_wI (by omega)) (Fr_wI (by omega))))⟩
        by_cases q9 : B s = nI 59
        · rw [if_neg (fun w => w q9)]
          exact fin3 3 (by unfold tkK; rw [if_pos q, if_neg ql, if_neg qd, if_pos q9]) (Or.inl rfl)
        · rw [if_pos q9]
          exact fin3 4 (by unfold tkK; rw [if_pos q, if_neg ql, if_neg qd, if_neg q9]) (Or.inr rfl)
  · have k1 : tkK N B s = 0 := by unfold tkK; rw [if_neg q]
    have k2 : tkE N B s = s := by unfold tkE; rw [if_neg q]
    rw [if_neg (nI_nlt (by omega) (by omega))]
    refine ⟨_, rfl, ⟨by rw [rI_wI_ne (by omega)]; exact e9, by rw [k2, rI_wI_ne (by omega)]; exact e8, by rw [k1, rI_wI_self], fun z => by omega, fun z => by omega⟩, FrG_tr FG (FrG_wI (by omega))⟩
end
