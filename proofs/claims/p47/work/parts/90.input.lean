/-! layer 2: the input's bytes -/
theorem by_sh (p : Int32) {u : UInt32} {s : Int32} (k : Nat) (hk : k ≤ 24) (hu : ∀ x : BitVec 32, (UInt32.ofBitVec x >>> u).toBitVec = x >>> k) (hs : (p >>> s).toBitVec = p.toBitVec.sshiftRight k) : (p.toUInt32 >>> u).toInt32.toInt8 = (p >>> s).toInt8 := by
  apply Int8.toBitVec_inj.mp
  apply BitVec.eq_of_getLsbD_eq
  intro i hi
  show (BitVec.signExtend 8 (UInt32.ofBitVec p.toBitVec >>> u).toBitVec).getLsbD i = (BitVec.signExtend 8 (p >>> s).toBitVec).getLsbD i
  rw [hu, hs, BitVec.getLsbD_signExtend, BitVec.getLsbD_signExtend, BitVec.getLsbD_ushiftRight, BitVec.getLsbD_sshiftRight]
  have h1 : i < 32 := by omega
  have h2 : k + i < 32 := by omega
  simp [hi, h1, h2]
theorem by_0 (p : Int32) : ((p.toUInt32 >>> ((0 : Int32).toUInt32 &&& Int32.toUInt32 31)).toInt32).toInt8 = p.toInt8 := by
  have e : (Int32.toUInt32 0 &&& Int32.toUInt32 31) = 0 := by decide
  rw [e]
  congr 1
def byB (p : Int32) (i : Nat) : Int32 := (if i = 0 then (p >>> ((24 : Int32) &&& 31)).toInt8 else if i = 1 then (p >>> ((16 : Int32) &&& 31)).toInt8 else if i = 2 then (p >>> ((8 : Int32) &&& 31)).toInt8 else p.toInt8).toInt32
def ixP : Nat → Int32
  | 0 => 24
  | 1 => 16
  | 2 => 8
  | 3 => 0
  | _ => -8
theorem nar8 (b : Int8) : vp_nar .byte b.toInt32 = b.toInt32 := by
  show b.toInt32.toInt8.toInt32 = _
  rw [Int8.toInt8_toInt32]
theorem ixP_step (p : Int32) {k : Nat} (hk : k < 4) : ¬ ixP k < 0 ∧ ixP k + (-8 : Int32) = ixP (k + 1) ∧ vp_nar .byte (((p.toUInt32 >>> ((ixP k).toUInt32 &&& Int32.toUInt32 31)).toInt32).toInt8.toInt32) = byB p k := by
  have : k = 0 ∨ k = 1 ∨ k = 2 ∨ k = 3 := by omega
  rw [nar8]
  rcases this with rfl | rfl | rfl | rfl
  · exact ⟨by decide, by decide, congrArg Int8.toInt32 (by_sh p 24 (by omega) (fun x => rfl) rfl)⟩
  · exact ⟨by decide, by decide, congrArg Int8.toInt32 (by_sh p 16 (by omega) (fun x => rfl) rfl)⟩
  · exact ⟨by decide, by decide, congrArg Int8.toInt32 (by_sh p 8 (by omega) (fun x => rfl) rfl)⟩
  · exact ⟨by decide, by decide, congrArg Int8.toInt32 (by_0 p)⟩
theorem byB_by (p : Int32) (i : Nat) : (byB p i).toInt8.toInt32 = byB p i := by
  unfold byB
  rw [Int8.toInt8_toInt32]
section
variable {σ μ : Mem}
theorem put_h (p : Int32) {n : Nat} (hn : n ≤ 696) (h7 : rI σ 7 0 0 = nI n) : OkQ (fX2_put p σ) (fun σ2 => rI σ2 7 0 0 = nI (n + 4) ∧ (∀ i, i < 4 → rI σ2 6 0 (n + i) = byB p i) ∧ (∀ i, i < n → rI σ2 6 0 i = rI σ 6 0 i) ∧ FrQ (fun k _ _ => k = 6 ∨ k = 7) σ σ2) := by
  have hl : OkQ (loop (stX2_put_3 p) 5000 (ixP 0, σ)) (fun σ2 => rI σ2 7 0 0 = nI (n + 4) ∧ (∀ i, i < 4 → rI σ2 6 0 (n + i) = byB p i) ∧ (∀ i, i < n → rI σ2 6 0 i = rI σ 6 0 i) ∧ FrQ (fun k _ _ => k = 6 ∨ k = 7) σ σ2) := by
    refine loop_ok 4 (fun k q => q.1 = ixP k ∧ rI q.2 7 0 0 = nI (n + k) ∧ (∀ i, i < k → rI q.2 6 0 (n + i) = byB p i) ∧ (∀ i, i < n → rI q.2 6 0 i = rI σ 6 0 i) ∧ FrQ (fun k _ _ => k = 6 ∨ k = 7) σ q.2) (by omega) ⟨rfl, h7, fun i hi => absurd hi (Nat.not_lt_zero _), fun i _ => rfl, Fr_rfl σ⟩ ?_
    rintro k ⟨q1, q2⟩ hk ⟨e1, e2, e3, e4, e5⟩
    try dsimp only at e1 e2 e3 e4 e5
    subst e1
    unfold stX2_put_3 jX2_put_42
    try dsimp only
    by_cases hk4 : k = 4
    · rw [hk4, if_pos (show ixP 4 < 0 from by decide)]
      rw [hk4] at e2 e3
      exact ⟨_, rfl, e2, e3, e4, e5⟩
    · obtain ⟨s1, s2, s3⟩ := ixP_step p (k := k) (by omega)
      rw [if_neg s1, e2, show (700 : Int32) = nI 700 from l_700, if_neg (nI_ge (by omega) (by omega)), gd_inb (by omega) (by omega), nI_clamp (by omega), s2, s3, rI_wI_ne (by omega), e2]
      simp only [l_1]
      rw [nI_add]
      refine ⟨_, rfl, by omega, rfl, rI_wI_self, fun i hi => ?_, fun i hi => ?_, Fr_tr e5 (Fr_tr (Fr_wI (Or.inl rfl)) (Fr_wI (Or.inr rfl)))⟩
      · show rI (wI (wI q2 6 0 (n + k) (byB p k)) 7 0 0 (nI (n + k + 1))) 6 0 (n + i) = _
        rw [rI_wI_ne (by omega), rI_wI]
        by_cases z : i = k
        · rw [if_pos ⟨rfl, rfl, by omega⟩, z]
        · rw [if_neg (by omega)]; exact e3 i (by omega)
      · show rI (wI (wI q2 6 0 (n + k) (byB p k)) 7 0 0 (nI (n + k + 1))) 6 0 i = _
        rw [rI_wI_ne (by omega), rI_wI_ne (by omega)]; exact e4 i hi
  unfold fX2_put
  refine Ok_bind hl ?_
  intro σ2 h2
  exact ⟨_, rfl, h2⟩
/-- the input's n bytes, one side and the other -/
def I6n (n : Nat) (σ μ : Mem) : Prop := rI σ 7 0 0 = nI n ∧ rI μ 66 0 0 = nI n ∧ ∀ i, i < n → rI σ 6 0 i = rI μ 65 0 i ∧ (rI σ 6 0 i).toInt8.toInt32 = rI σ 6 0 i
theorem I7_io {K Km : Nat → Nat → Nat → Prop} {σ2 μ2 : Mem} (h : I7 σ μ) (F : FrQ K σ σ2) (G : FrQ Km μ μ2) (hk : ∀ k x r, K k x r → k ≠ 1 ∧ k ≠ 4 ∧ k ≠ 5) (hm : ∀ k x r, Km k x r → k ≠ 67 ∧ k ≠ 68 ∧ k ≠ 69) : I7 σ2 μ2 := I7_fr (KJ := fun _ _ _ => False) (KJm := fun _ _ _ => False) h (Fr_G F) (Fr_G G) hk hm
end
