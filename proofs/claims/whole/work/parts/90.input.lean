/-! layer 2: the input's bytes -/
theorem by_sh (p : Int32) {u : UInt32} {s : Int32} (k : Nat) (hk : k ≤ 24) (hu : ∀ x : BitVec 32, (UInt32.ofBitVec x >>> u).toBitVec = x >>> k) (hs : (p >>> s).toBitVec = p.toBitVec.sshiftRight k) : (p.toUInt32 >>> u).toInt32.toInt8 = (p >>> s).toInt8 := by
  apply Int8.toBitVec_inj.mp
  apply BitVec.eq_of_getLsbD_eq
  intro i hi
  show (BitVec.signExtend 8 (UInt32.ofBitVec p.toBitVec >>> u).toBitVec).getLsbD i = (BitVec.signExtend 8 (p >>> s).toBitVec).getLsbD i
  rw [hu, hs, BitVec.getLsbD_signExtend, BitVec.getLsbD_signExtend, BitVec.getLsbD_ushiftRight, BitVec.getLsbD_sshiftRight]
  have h1 : i < 32 := by omega
  have h2 : k + i < 32 := by omega
  simp [hi, h1, h2]
theorem by_0 (p : Int32) : ((p.toUInt32 >>> ((0 : Int32).toUInt32 &&& Int32.toUInt32 31)).toInt32).toInt8 = p.toInt8 := by
  have e : (Int32.toUInt32 0 &&& Int32.toUInt32 31) = 0 := by decide
  rw [e]
  congr 1
def byB (p : Int32) (i : Nat) : Int32 := (if i = 0 then (p >>> ((24 : Int32) &&& 31)).toInt8 else if i = 1 then (p >>> ((16 : Int32) &&& 31)).toInt8 else if i = 2 then (p >>> ((8 : Int32) &&& 31)).toInt8 else p.toInt8).toInt32
def ixP : Nat → Int32
  | 0 => 24
  | 1 => 16
  | 2 => 8
  | 3 => 0
  | _ => -8
theorem nar8 (b : Int8) : vp_nar .byte b.toInt32 = b.toInt32 := by
  show b.toInt32.toInt8.toInt32 = _
  rw [Int8.toInt8_toInt32]
theorem ixP_step (p : Int32) {k : Nat} (hk : k < 4) : ¬ ixP k < 0 ∧ ixP k + (-8 : Int32) = ixP (k + 1) ∧ vp_nar .byte (((p.toUInt32 >>> ((ixP k).toUInt32 &&& Int32.toUInt32 31)).toInt32).toInt8.toInt32) = byB p k := by
  have : k = 0 ∨ k = 1 ∨ k = 2 ∨ k = 3 := by omega
  rw [nar8]
  rcases this with rfl | rfl | rfl | rfl
  · exact ⟨by decide, by decide, congrArg Int8.toInt32 (by_sh p 24 (by omega) (fun x => rfl) rfl)⟩
  · exact ⟨by decide, by decide, congrArg Int8.toInt32 (by_sh p 16 (by omega) (fun x => rfl) rfl)⟩
  · exact ⟨by decide, by decide, congrArg Int8.toInt32 (by_sh p 8 (by omega) (fun x => rfl) rfl)⟩
  · exact ⟨by decide, by decide, congrArg Int8.toInt32 (by_0 p)⟩
theorem byB_by (p : Int32) (i : Nat) : (byB p i).toInt8.toInt32 = byB p i := by
  unfold byB
  rw [Int8.toInt8_toInt32]
section
variable {σ μ : Mem}
theorem put_h (p : Int32) {n : Nat} (hn : n ≤ 696) (h7 : rI σ 7 0 0 = nI n) : OkQ (fX2_put p σ) (fun σ2 => rI σ2 7 0 0 = nI (n + 4) ∧ (∀ i, i < 4 → rI σ2 6 0 (n + i) = byB p i) ∧ (∀ i, i < n → rI σ2 6 0 i = rI σ 6 0 i) ∧ FrQ (fun k _ _ => k = 6 ∨ k = 7) σ σ2) := by
  have hl : OkQ (loop (stX2_put_3 p) 5000 (ixP 0, σ)) (fun σ2 => rI σ2 7 0 0 = nI (n + 4) ∧ (∀ i, i < 4 → rI σ2 6 0 (n + i) = byB p i) ∧ (∀ i, i < n → rI σ2 6 0 i = rI σ 6 0 i) ∧ FrQ (fun k _ _ => k = 6 ∨ k = 7) σ σ2) := by
    refine loop_ok 4 (fun k q => q.1 = ixP k ∧ rI q.2 7 0 0 = nI (n + k) ∧ (∀ i, i < k → rI q.2 6 0 (n + i) = byB p i) ∧ (∀ i, i < n → rI q.2 6 0 i = rI σ 6 0 i) ∧ FrQ (fun k _ _ => k = 6 ∨ k = 7) σ q.2) (by omega) ⟨rfl, h7, fun i hi => absurd hi (Nat.not_lt_zero _), fun i _ => rfl, Fr_rfl σ⟩ ?_
    rintro k ⟨q1, q2⟩ hk ⟨e1, e2, e3, e4, e5⟩
    try dsimp only at e1 e2 e3 e4 e5
    subst e1
    unfold stX2_put_3 jX2_put_42
    try dsimp only
    by_cases hk4 : k = 4
    · rw [hk4, if_pos (show ixP 4 < 0 from by decide)]
      rw [hk4] at e2 e3
      exact ⟨_, rfl, e2, e3, e4, e5⟩
    · obtain ⟨s1, s2, s3⟩ := ixP_step p (k := k) (by omega)
      rw [if_neg s1, e2, show (700 : Int32) = nI 700 from l_700, if_neg (nI_ge (by omega) (by omega)), gd_inb (by omega) (by omega), nI_clamp (by omega), s2, s3, rI_wI_ne (by omega), e2]
      simp only [l_1]
      rw [nI_add]
      refine ⟨_, rfl, by omega, rfl, rI_wI_self, fun i hi => ?_, fun i hi => ?_, Fr_tr e5 (Fr_tr (Fr_wI (Or.inl rfl)) (Fr_wI (Or.inr rfl)))⟩
      · show rI (wI (wI q2 6 0 (n + k) (byB p k)) 7 0 0 (nI (n + k + 1))) 6 0 (n + i) = _
        rw [rI_wI_ne (by omega), rI_wI]
        by_cases z : i = k
        · rw [if_pos ⟨rfl, rfl, by omega⟩, z]
        · rw [if_neg (by omega)]; exact e3 i (by omega)
      · show rI (wI (wI q2 6 0 (n + k) (byB p k)) 7 0 0 (nI (n + k + 1))) 6 0 i = _
        rw [rI_wI_ne (by omega), rI_wI_ne (by omega)]; exact e4 i hi
  unfold fX2_put
  refine Ok_bind hl ?_
  intro σ2 h2
  exact ⟨_, rfl, h2⟩
theorem put_s (p : Int32) {n : Nat} (hn : n ≤ 696) (h7 : rI μ 66 0 0 = nI n) : OkQ (fX6_put p μ) (fun μ2 => rI μ2 66 0 0 = nI (n + 4) ∧ (∀ i, i < 4 → rI μ2 65 0 (n + i) = byB p i) ∧ (∀ i, i < n → rI μ2 65 0 i = rI μ 65 0 i) ∧ FrQ (fun k _ _ => k = 65 ∨ k = 66) μ μ2) := by
  have b0 : vp_nar .byte ((p >>> ((24 : Int32) &&& 31)).toInt8.toInt32) = byB p 0 := nar8 _
  have b1' : vp_nar .byte ((p >>> ((16 : Int32) &&& 31)).toInt8.toInt32) = byB p 1 := nar8 _
  have b2 : vp_nar .byte ((p >>> ((8 : Int32) &&& 31)).toInt8.toInt32) = byB p 2 := nar8 _
  have b3 : vp_nar .byte p.toInt8.toInt32 = byB p 3 := nar8 _
  have r : ∀ (m : Mem) (j : Nat) (v : Int32), rI (wI m 65 0 j v) 66 0 0 = rI m 66 0 0 := fun m j v => rI_wI_ne (by omega)
  unfold fX6_put
  simp only [r, h7, b0, b1', b2, b3, l_1, l_2, l_3, l_4, nI_add]
  rw [gd_inb (by omega) (by omega), gd_inb (by omega) (by omega), gd_inb (by omega) (by omega), gd_inb (by omega) (by omega), nI_clamp (by omega), nI_clamp (by omega), nI_clamp (by omega), nI_clamp (by omega)]
  refine ⟨_, rfl, rI_wI_self, fun i hi => ?_, fun i hi => ?_, Fr_tr (Fr_tr (Fr_tr (Fr_tr (Fr_wI (Or.inl rfl)) (Fr_wI (Or.inl rfl))) (Fr_wI (Or.inl rfl))) (Fr_wI (Or.inl rfl))) (Fr_wI (Or.inr rfl))⟩
  · have : i = 0 ∨ i = 1 ∨ i = 2 ∨ i = 3 := by omega
    rcases this with rfl | rfl | rfl | rfl
    · rw [rI_wI_ne (by omega), rI_wI_ne (by omega), rI_wI_ne (by omega), rI_wI_ne (by omega), Nat.add_zero, rI_wI_self]
    · rw [rI_wI_ne (by omega), rI_wI_ne (by omega), rI_wI_ne (by omega), rI_wI_self]
    · rw [rI_wI_ne (by omega), rI_wI_ne (by omega), rI_wI_self]
    · rw [rI_wI_ne (by omega), rI_wI_self]
  · rw [rI_wI_ne (by omega), rI_wI_ne (by omega), rI_wI_ne (by omega), rI_wI_ne (by omega), rI_wI_ne (by omega)]
/-- the input's n bytes, one side and the other -/
def I6n (n : Nat) (σ μ : Mem) : Prop := rI σ 7 0 0 = nI n ∧ rI μ 66 0 0 = nI n ∧ ∀ i, i < n → rI σ 6 0 i = rI μ 65 0 i ∧ (rI σ 6 0 i).toInt8.toInt32 = rI σ 6 0 i
theorem put_6 (p : Int32) {n : Nat} (hn : n ≤ 696) (h : I6n n σ μ) : ∃ σ2 μ2, fX2_put p σ = some σ2 ∧ fX6_put p μ = some μ2 ∧ I6n (n + 4) σ2 μ2 ∧ FrQ (fun k _ _ => k = 6 ∨ k = 7) σ σ2 ∧ FrQ (fun k _ _ => k = 65 ∨ k = 66) μ μ2 := by
  obtain ⟨h1, h2, h3⟩ := h
  obtain ⟨σ2, a0, a1, a2, a3, a4⟩ := put_h p hn h1
  obtain ⟨μ2, b0, b1', b2, b3, b4⟩ := put_s p hn h2
  refine ⟨σ2, μ2, a0, b0, ⟨a1, b1', fun i hi => ?_⟩, a4, b4⟩
  by_cases z : i < n
  · rw [a3 i z, b3 i z]; exact h3 i z
  · have e : i = n + (i - n) := by omega
    rw [e, a2 _ (by omega), b2 _ (by omega)]
    exact ⟨rfl, byB_by p _⟩
theorem In_io {σ2 μ2 : Mem} (h : InQ σ μ) (F : FrQ (fun k _ _ => k = 1 ∨ (4 ≤ k ∧ k ≤ 11)) σ σ2) (G : FrQ (fun k _ _ => k = 60 ∨ (65 ≤ k ∧ k ≤ 75)) μ μ2) (h6 : I6 σ2 μ2) (h7 : I7 σ2 μ2) : InQ σ2 μ2 := by
  obtain ⟨ρ, ⟨⟨x1, x2, x3⟩, b, c, d1, d2, d3⟩, C, h3, hN, h5, -, -⟩ := h
  have hP0 : rP σ2 0 = rP σ 0 := Fr_P F 0
  have hP1 : rP σ2 1 = rP σ 1 := Fr_P F 1
  refine ⟨ρ, ⟨⟨by rw [hP0]; exact x1, by rw [hP1]; exact x2, by rw [hP0, hP1]; exact x3⟩, by rw [hP0]; exact HR_fr b F (fun k r _ _ => by omega), PC_fr c F (fun k r _ _ => by omega), ⟨fun x hx => ?_, ?_, ?_⟩⟩, Cur_fr C G (by omega) (fun k _ _ => by omega), h3, ?_, ?_, h6, h7⟩
  · rw [F.1 53 0 x (by omega), F.1 54 0 x (by omega)]; exact d1 x hx
  · rw [F.1 55 0 0 (by omega)]; exact d2
  · rw [F.1 56 0 0 (by omega)]; exact d3
  · rw [hP0]
    refine ⟨fun r hr => ?_, fun b hb => ?_⟩
    · rw [Fr_J F, Fr_J G]; exact hN.1 r hr
    · rw [Fr_J F, Fr_J G]; exact hN.2 b hb
  · exact I5_edit (K := fun k _ _ => k = 1 ∨ (4 ≤ k ∧ k ≤ 11)) (KJ := fun _ _ _ => False) (Km := fun k _ _ => k = 60 ∨ (65 ≤ k ∧ k ≤ 75)) (KJm := fun _ _ _ => False) h5 (Fr_G F) (Fr_G G) (fun k x r z => by omega) (fun k x r z _ => z.elim) (fun k x r z => by omega) (fun k x r z => z.elim) (Nat.le_refl _)
theorem I7_io {K Km : Nat → Nat → Nat → Prop} {σ2 μ2 : Mem} (h : I7 σ μ) (F : FrQ K σ σ2) (G : FrQ Km μ μ2) (hk : ∀ k x r, K k x r → k ≠ 1 ∧ k ≠ 4 ∧ k ≠ 5) (hm : ∀ k x r, Km k x r → k ≠ 67 ∧ k ≠ 68 ∧ k ≠ 69) : I7 σ2 μ2 := I7_fr (KJ := fun _ _ _ => False) (KJm := fun _ _ _ => False) h (Fr_G F) (Fr_G G) hk hm
theorem ANm_append (hIn : InQ σ μ) (p1 p2 p3 p4 p5 : Int32) : ANm (fX5_append p1 p2 p3 p4 p5 σ) (fX6_append p1 p2 p3 p4 p5 μ) [(1, 1)] InQ := by
  obtain ⟨ρ, h1, C, h3, hN, h5, ⟨n, n1, n2, n3, n4⟩, h7⟩ := id hIn
  by_cases hn : n + 20 ≤ 700
  · have I0 : I6n n σ (wI μ 60 0 0 (nI 0)) := ⟨n2, by rw [rI_wI_ne (by omega)]; exact n3, fun i hi => by rw [rI_wI_ne (by omega)]; exact n4 i hi⟩
    obtain ⟨s1, m1, a1, b1', I1', F1, G1⟩ := put_6 p1 (by omega) I0
    obtain ⟨s2, m2, a2, b2, I2', F2, G2⟩ := put_6 p2 (by omega) I1'
    obtain ⟨s3, m3, a3, b3, I3', F3, G3⟩ := put_6 p3 (by omega) I2'
    obtain ⟨s4, m4, a4, b4, I4', F4, G4⟩ := put_6 p4 (by omega) I3'
    obtain ⟨s5, m5, a5, b5, I5', F5, G5⟩ := put_6 p5 (by omega) I4'
    have FF : FrQ (fun k _ _ => k = 6 ∨ k = 7) σ s5 := Fr_tr F1 (Fr_tr F2 (Fr_tr F3 (Fr_tr F4 F5)))
    have GG : FrQ (fun k _ _ => k = 60 ∨ k = 65 ∨ k = 66) μ m5 := Fr_tr (Fr_wI (Or.inl rfl)) (Fr_mono (Fr_tr G1 (Fr_tr G2 (Fr_tr G3 (Fr_tr G4 G5)))) (fun k j r z => Or.inr z))
    have G60 : rI m5 60 0 0 = nI 0 := by
      rw [(Fr_tr G1 (Fr_tr G2 (Fr_tr G3 (Fr_tr G4 G5)))).1 60 0 0 (by omega), rI_wI_self]
    refine Or.inl ⟨rI s5 7 0 0, s5, ?_, ?_⟩
    · unfold fX5_append
      simp only [l_20, l_700]
      rw [n2, nI_add, if_pos (nI_le hn (by omega)), a1, Option.bind_some, a2, Option.bind_some, a3, Option.bind_some, a4, Option.bind_some, a5, Option.bind_some]
    · unfold fX6_append
      simp only [l_0, l_20, l_700]
      rw [I0.2.1, nI_add, if_pos (nI_le hn (by omega)), b1', Option.bind_some, b2, Option.bind_some, b3, Option.bind_some, b4, Option.bind_some, b5, Option.bind_some]
      refine ⟨_, rfl, ?_, G60, In_io hIn (Fr_mono FF (fun k j r z => by omega)) (Fr_mono GG (fun k j r z => by omega)) ⟨n + 4 + 4 + 4 + 4 + 4, by omega, I5'⟩ (I7_io h7 FF GG (fun k x r z => by omega) (fun k x r z => by omega))⟩
      show rI m5 66 0 0 = rI s5 7 0 0
      rw [I5'.1, I5'.2.1]
  · refine ANm_no hIn 1 1 (by decide) ?_ ?_
    · unfold fX5_append
      simp only [l_20, l_700]
      rw [n2, nI_add, if_neg (nI_ge (by omega) (by omega))]
    · unfold fX6_append
      simp only [l_0, l_1, l_20, l_700]
      rw [rI_wI_ne (by omega), n3, nI_add, if_neg (nI_ge (by omega) (by omega))]
      exact ref_no 1
theorem AT_truncate (hIn : InQ σ μ) (p : Int32) : (∃ σ2, fX5_truncate p σ = some (.inl (), σ2) ∧ OkQ (fX6_truncate p μ) (fun m => rI m 60 0 0 = nI 0 ∧ InQ σ2 m)) ∨ (fX5_truncate p σ = some (.inr 2, σ) ∧ OkQ (fX6_truncate p μ) (fun m => rI m 60 0 0 = nI 1 ∧ InQ σ m)) := by
  obtain ⟨ρ, h1, C, h3, hN, h5, ⟨n, n1, n2, n3, n4⟩, h7⟩ := id hIn
  rcases ix_em p (n + 1) with ⟨k, hk, rfl⟩ | q
  · refine Or.inl ⟨wI σ 7 0 0 (nI k), ?_, ?_⟩
    · unfold fX5_truncate
      rw [if_neg (show ¬ nI k < 0 from nI_nlt (b := 0) (by omega) (by omega)), n2, if_pos (nI_le (by omega) (by omega))]
    · unfold fX6_truncate
      simp only [l_0]
      rw [rI_wI_ne (by omega), n3, isIn_rY (by omega) (by omega) (by omega), Option.bind_some, if_pos (by decide)]
      have FF : FrQ (fun k _ _ => k = 7) σ (wI σ 7 0 0 (nI k)) := Fr_wI rfl
      have GG : FrQ (fun k _ _ => k = 60 ∨ k = 66) μ (wI (wI μ 60 0 0 (nI 0)) 66 0 0 (nI k)) := Fr_tr (Fr_wI (Or.inl rfl)) (Fr_wI (Or.inr rfl))
      refine ⟨_, rfl, by rw [rI_wI_ne (by omega), rI_wI_self], In_io hIn (Fr_mono FF (fun k j r z => by omega)) (Fr_mono GG (fun k j r z => by omega)) ⟨k, by omega, rI_wI_self, rI_wI_self, fun i hi => ?_⟩ (I7_io h7 FF GG (fun k x r z => by omega) (fun k x r z => by omega))⟩
      rw [FF.1 6 0 i (by omega), GG.1 65 0 i (by omega)]
      exact n4 i (by omega)
  · refine Or.inr ⟨?_, ?_⟩
    · unfold fX5_truncate jX5_truncate_15
      by_cases z : p < 0
      · rw [if_pos z]
      · rw [if_neg z, n2, if_neg (fun y => ?_)]
        rcases ix_no (by omega) q with w | w
        · exact z w
        · have hle : p.toInt ≤ (nI n).toInt := Int32.le_iff_toInt_le.mp y
          have hge : (nI (n + 1)).toInt ≤ p.toInt := Int32.le_iff_toInt_le.mp (Int32.not_lt.mp w)
          have e1 : (nI n).toInt < (nI (n + 1)).toInt := Int32.lt_iff_toInt_lt.mp (nI_lt (by omega) (by omega))
          omega
    · unfold fX6_truncate
      simp only [l_0, l_1]
      rw [rI_wI_ne (by omega), n3, isIn_rN (by omega) (by omega) (fun ⟨k, k1, k2⟩ => q ⟨k, by omega, k2⟩), Option.bind_some, if_neg (by decide)]
      exact ⟨_, rfl, rI_wI_self, In_qt hIn (QT_tr QT_60 QT_60)⟩
theorem A1_errorOffset (hIn : InQ σ μ) : ∃ x, fX5_errorOffset σ = some x ∧ OkQ (fX6_errorOffset μ) (fun q => q.1 = x ∧ rI q.2 60 0 0 = nI 0 ∧ InQ σ q.2) := by
  obtain ⟨ρ, h1, C, h3, hN, h5, h6, h7⟩ := id hIn
  refine ⟨rI σ 1 0 0, rfl, ?_⟩
  unfold fX6_errorOffset
  simp only [l_0]
  refine ⟨_, rfl, ?_, rI_wI_self, In_qt hIn QT_60⟩
  show rI (wI μ 60 0 0 (nI 0)) 67 0 0 = _
  rw [rI_wI_ne (by omega)]; exact h7.1.symm
end
