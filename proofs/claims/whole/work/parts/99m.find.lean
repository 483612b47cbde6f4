/-! layer 2: a name looked upQ -/
section
variable {σ σ2 μ μ2 : Mem} {j N s : Nat} {B : Nat → Int32} {ρ : RwQ}
theorem more_l {x l : Nat} (hx : x < 2 ^ 56) (h1 : 1 ≤ l) (hl : l ≤ 26) : fX6_more (lN x) (nI (96 + l)) = some (lN (x * 32 + l)) := by
  unfold fX6_more
  simp only [l_0]
  rw [if_pos (nI_ne (by omega) (by omega) (by omega))]
  have e : (nI (96 + l)).toInt64 = Int64.ofNat (96 + l) := by
    have : l < 27 := by omega
    clear h1 hl
    revert l
    decide +kernel
  rw [e]
  congr 1
  apply Int64.toBitVec_inj.mp
  show 32#64 * BitVec.ofNat 64 x + BitVec.ofNat 64 (96 + l) - 96#64 = BitVec.ofNat 64 (x * 32 + l)
  apply BitVec.eq_of_toNat_eq
  simp only [BitVec.toNat_add, BitVec.toNat_sub, BitVec.toNat_mul, BitVec.toNat_ofNat]
  omega
theorem more_t (x : Int64) (c : Int32) : ∃ v, fX6_more x c = some v := by
  unfold fX6_more
  by_cases q : c = 0
  · rw [if_neg (fun z => z q)]; exact ⟨_, rfl⟩
  · rw [if_pos q]; exact ⟨_, rfl⟩
theorem findL_s (h66 : rI μ 66 0 0 = nI N) (hN : 1 ≤ N ∧ N ≤ 8) (hB : ∀ i, i < N → rI μ 65 0 i = B i) : OkQ (loop (stX6_find_22 μ) 5000 ((0 : Int64), nI 1, nI 0)) (fun r => (r.2 = nI 1 ∧ lts N B 0 = N ∧ r.1 = lN (n5Q (lsN B 0 N))) ∨ (r.2 = nI 0 ∧ lts N B 0 < N)) := by
  have hle : lts N B 0 ≤ N - 0 := fstN_le (nlt N B 0) (N - 0)
  refine loop_ok N (fun k a => a.2.2 = nI k ∧ ((a.2.1 = nI 1 ∧ k ≤ lts N B 0 ∧ a.1 = lN (n5Q (lsN B 0 k))) ∨ (a.2.1 = nI 0 ∧ lts N B 0 < N))) (by omega) ⟨rfl, Or.inl ⟨rfl, Nat.zero_le _, rfl⟩⟩ ?_
  rintro k ⟨a1, a2, a3⟩ hk ⟨e0, e1⟩
  try dsimp only at e0 e1
  subst e0
  unfold stX6_find_22
  simp only [l_0, l_1, l_97, l_122]
  rw [rI_wI_ne (by omega), h66]
  by_cases z : k < N
  · rw [if_neg (nI_ge z (by omega))]
    rcases e1 with ⟨e1, e2, e3⟩ | ⟨e1, e2⟩
    · subst e1
      subst e3
      rw [if_neg (by decide), gd_inb (by omega) (by omega), nI_clamp (by omega), rI_wI_ne (by omega), hB k z, isIn_b, Option.bind_some]
      by_cases q : k < lts N B 0
      · obtain ⟨l, l1, l2, l3, l4, l5, l6, l7⟩ := n8_step (N := N) (s := 0) (B := B) q (Nat.zero_le _) (by omega)
        rw [Nat.zero_add] at l3
        rw [l3, more_l l7 l1 l2, Option.bind_some, show decide (nI 97 ≤ nI (96 + l) ∧ nI (96 + l) ≤ nI 122) = true from decide_eq_true ⟨nI_le (by omega) (by omega), nI_le (by omega) (by omega)⟩, nI_add]
        exact ⟨_, rfl, z, rfl, Or.inl ⟨rfl, q, by rw [l5]⟩⟩
      · have ek : k = lts N B 0 := by omega
        have hd : ltr (B k) = false := by
          have := fstN_yes (p := nlt N B 0) (n := N - 0) (by unfold lts at ek hle; omega)
          rw [show fstN (nlt N B 0) (N - 0) = k from ek.symm] at this
          unfold nlt btA at this
          rw [Nat.zero_add, if_pos z] at this
          simpa using this
        obtain ⟨v, hv⟩ := more_t (lN (n5Q (lsN B 0 k))) (B k)
        rw [show decide (nI 97 ≤ B k ∧ B k ≤ nI 122) = false from hd, hv, Option.bind_some, nI_add]
        exact ⟨_, rfl, z, rfl, Or.inr ⟨rfl, by omega⟩⟩
    · subst e1
      rw [if_pos rfl]
      exact ⟨_, rfl, Or.inr ⟨rfl, e2⟩⟩
  · have ek : k = N := by omega
    rw [if_pos (nI_le (by omega) (by omega))]
    refine ⟨_, rfl, ?_⟩
    rcases e1 with ⟨e1, e2, e3⟩ | ⟨e1, e2⟩
    · exact Or.inl ⟨e1, by omega, by rw [e3, ek]⟩
    · exact Or.inr ⟨e1, e2⟩
theorem all_h (T : TxC σ N B) : ∃ σ2, FA σ σ2 ∧ ((1 ≤ N ∧ N ≤ 8 ∧ lts N B 0 = N ∧ fX2_nameOfAll σ = some (lN (n8 (lsN B 0 N)), σ2)) ∨ (¬ (1 ≤ N ∧ N ≤ 8 ∧ lts N B 0 = N) ∧ fX2_nameOfAll σ = some ((0 : Int64), σ2))) := by
  obtain ⟨σ1, hσ1⟩ : ∃ t, t = wI σ 8 0 0 (nI 0) := ⟨_, rfl⟩
  have F1 : FA σ σ1 := by rw [hσ1]; exact FrG_wI (by omega)
  have T1 : TxC σ1 N B := ⟨T.1, by rw [F1.1 7 0 0 (by omega)]; exact T.2.1, fun i hi => by rw [F1.1 6 0 i (by omega)]; exact T.2.2 i hi⟩
  obtain ⟨σ2, a1, ⟨t1, t2, t3, t4, t5⟩, a3⟩ := advance_h T1 (a := 0) (Nat.zero_le _) (by rw [hσ1, rI_wI_self])
  obtain ⟨s, hs⟩ : ∃ s, s = skp N B 0 := ⟨_, rfl⟩
  have hle := skp_le (N := N) (B := B) (a := 0) (Nat.zero_le _)
  rw [← hs] at t1 t2 t3 t4 t5 hle
  have h4 := tkK_le N B s
  have hE := tkE_le (N := N) (B := B) (s := s) hle.2
  have hN := T.1
  have e7 : rI σ2 7 0 0 = nI N := by rw [a3.1 7 0 0 (by omega)]; exact T1.2.1
  refine ⟨σ2, FA_tr F1 a3, ?_⟩
  have conv : (1 ≤ N ∧ N ≤ 8 ∧ lts N B 0 = N) → tkK N B s = 1 ∧ s = 0 ∧ tkE N B s = N := by
    rintro ⟨x1, x2, x3⟩
    have hl : ltr (B 0) = true := by
      have := fstN_no (p := nlt N B 0) (n := N - 0) (i := 0) (by unfold lts at x3; omega)
      unfold nlt btA at this
      rw [Nat.add_zero, if_pos (by omega)] at this
      simpa using this
    have hb : nbl B 0 0 = true := by
      obtain ⟨l, l1, l2, l3, l4⟩ := ltr_n hl
      unfold nbl blk
      rw [Nat.zero_add, l3, decide_eq_false (fun z => z.elim (nI_ne (by omega) (by omega) (by omega)) (nI_ne (by omega) (by omega) (by omega)))]
      rfl
    have hs0 : s = 0 := by
      have := fstN_lt (p := nbl B 0) (n := N - 0) (i := 0) (by omega) hb
      rw [hs]
      unfold skp
      omega
    subst hs0
    refine ⟨?_, rfl, ?_⟩
    · unfold tkK
      rw [if_pos (by omega), if_pos hl, if_neg (by omega)]
    · unfold tkE
      rw [if_pos (by omega), if_pos hl]; omega
  unfold fX2_nameOfAll jX2_nameOfAll_42
  simp only [l_0, l_1]
  rw [← hσ1, a1, Option.bind_some, t3, t1, t2, e7]
  by_cases z1 : tkK N B s = 1
  · obtain ⟨x1, x2, x3, x4, x5, x6⟩ := tk_word z1
    rw [if_neg (fun y => y (by rw [z1]))]
    by_cases z2 : s = 0
    · rw [if_neg (fun y => y (by rw [z2]))]
      by_cases z3 : tkE N B s = N
      · rw [if_neg (fun y => y (by rw [z3]))]
        have e := t4 z1
        rw [z2] at x4 x2 x3 e z3
        rw [z2] at x5
        have hl : lts N B 0 = N := by omega
        rw [hl] at e
        exact Or.inl ⟨by omega, by omega, hl, by rw [e]⟩
      · rw [if_pos (nI_ne (by omega) (by omega) z3)]
        exact Or.inr ⟨fun y => z3 (conv y).2.2, rfl⟩
    · rw [if_pos (nI_ne (by omega) (by omega) z2)]
      exact Or.inr ⟨fun y => z2 (conv y).2.1, rfl⟩
  · rw [if_pos (nI_ne (by omega) (by omega) z1)]
    exact Or.inr ⟨fun y => z1 (conv y).1, rfl⟩
theorem ANm_find (hIn : InQ σ μ) (p1 : Int32) : ANm (fX5_find p1 σ) (fX6_find p1 μ) [(4, 1)] InQ := by
  obtain ⟨ρ, h1, C, h3, hN, h5, ⟨N, n1, n2, n3, n4⟩, h7⟩ := id hIn
  have h16 := h3.2.2
  have h8 := h3.1.1
  have hP := h1.1
  obtain ⟨B, hB⟩ : ∃ B : Nat → Int32, B = fun i => rI σ 6 0 i := ⟨_, rfl⟩
  have T : TxC σ N B := ⟨n1, n2, fun i hi => by rw [hB]⟩
  have hBm : ∀ i, i < N → rI μ 65 0 i = B i := fun i hi => by rw [hB]; exact (n4 i hi).1.symm
  obtain ⟨σ2, F2, hall⟩ := all_h T
  have hI2 : InQ σ2 μ := In_st hIn (ST_G (j := rP σ 1) F2 (fun k x r z => by unfold KSQ; omega) (fun k x r z => Or.inl z)) rfl
  have p0 : rP σ2 0 = rP σ 0 := FrG_P F2 0
  have hR2 : HR σ2 (rP σ 0) ρ := HR_FA h1.2.1 F2
  have hN2 : Nms σ2 μ (rP σ 0) ρ := ⟨fun r hr => by rw [F2.2.1 1 _ r (by omega)]; exact hN.1 r hr, fun b hb => by rw [F2.2.1 2 _ b (by omega)]; exact hN.2 b hb⟩
  have C0 := cur0 C
  have q0 : QTQ μ (wI μ 60 0 0 (nI 0)) := QT_60
  rcases hall with ⟨x1, x2, x3, x4⟩ | ⟨x, x4⟩
  · obtain ⟨o1, o2⟩ := lsN_ok (N := N) (s := 0) (B := B) N (by omega) (Nat.zero_le _)
    have hq : NMq (lN (n8 (lsN B 0 N))) (lN (n5Q (lsN B 0 N))) := ⟨_, by omega, o1, rfl, rfl⟩
    obtain ⟨⟨v1, v2⟩, g1, g2⟩ := findL_s n3 ⟨x1, x2⟩ hBm
    have g3 : v2 = nI 1 ∧ v1 = lN (n5Q (lsN B 0 N)) := by
      rcases g2 with ⟨y1, y2, y3⟩ | ⟨y1, y2⟩
      · exact ⟨y1, y3⟩
      · omega
    obtain ⟨rfl, rfl⟩ := g3
    have hrf : fX6_find p1 μ = (if p1 = nI 0 then jX6_find_113 μ (ixO (ρ 37) (fstN (bkP (wI μ 60 0 0 (nI 0)) (lN (n5Q (lsN B 0 N)))) (ρ 37))) else jX6_find_113 μ (ixO (ρ 4) (fstN (rmP (wI μ 60 0 0 (nI 0)) (lN (n5Q (lsN B 0 N)))) (ρ 4)))) := by
      have hN60 := Nms_qt hN2 q0
      unfold fX6_find
      simp only [l_0, l_1, l_4, l_8, l_37]
      rw [rI_wI_ne (by omega), n3, isIn_rY (by omega) (by omega) (by omega), Option.bind_some, g1, Option.bind_some]
      try dsimp only
      rw [if_pos (by decide), get_s C0 (by omega), get_s C0 (by omega), Option.bind_some, Option.bind_some, placeBN_s (by omega), placeRN_s (by omega) hN60.1, Option.bind_some, Option.bind_some]
    have hcl : fX5_find p1 σ = (if p1 = nI 0 then jX5_find_31 (lN (n8 (lsN B 0 N)), σ2) (ixO (ρ 37) (fstN (bkP (wI μ 60 0 0 (nI 0)) (lN (n5Q (lsN B 0 N)))) (ρ 37))) else jX5_find_31 (lN (n8 (lsN B 0 N)), σ2) (ixO (ρ 4) (fstN (rmP (wI μ 60 0 0 (nI 0)) (lN (n5Q (lsN B 0 N)))) (ρ 4)))) := by
      have hN60 := Nms_qt hN2 q0
      unfold fX5_find
      simp only [l_0]
      rw [x4, Option.bind_some]
      try dsimp only
      rw [p0, gd_pos (by omega), gd_pos (by omega), bookNamed_h (μ := wI μ 60 0 0 (nI 0)) hR2.1.2.2.1 (by omega) hq hN60.2, roomNamed_h (μ := wI μ 60 0 0 (nI 0)) hR2.1.1 (by omega) hq hN60.1, Option.bind_some, Option.bind_some]
    have key : ∀ n k, n ≤ 17 → ANm (jX5_find_31 (lN (n8 (lsN B 0 N)), σ2) (ixO n k)) (jX6_find_113 μ (ixO n k)) [(4, 1)] InQ := by
      intro n k hn
      unfold jX5_find_31 jX6_find_113 ixO
      simp only [l_0, l_1]
      by_cases z : k < n
      · rw [if_pos z, if_pos (nI_m1 (by omega)), if_pos (nI_m1 (by omega))]
        exact Or.inl ⟨nI k, σ2, rfl, _, rfl, rfl, rI_wI_self, In_qt hI2 q0⟩
      · rw [if_neg z, if_neg (fun y => y rfl), if_neg (fun y => y rfl)]
        refine ANm_no hI2 4 1 (by decide) rfl ?_
        exact ref_no 1
    rw [hrf, hcl]
    by_cases z : p1 = nI 0
    · rw [if_pos z, if_pos z]; exact key _ _ (by omega)
    · rw [if_neg z, if_neg z]; exact key _ _ (by omega)
  · have hrf : fX6_find p1 μ = jX6_find_113 μ (-nI 1) := by
      unfold fX6_find
      simp only [l_0, l_1, l_4, l_8, l_37]
      rw [rI_wI_ne (by omega), n3, isIn_b, Option.bind_some]
      by_cases y : 1 ≤ N ∧ N ≤ 8
      · obtain ⟨⟨v1, v2⟩, g1, g2⟩ := findL_s n3 y hBm
        have g3 : v2 = nI 0 := by
          rcases g2 with ⟨y1, y2, y3⟩ | ⟨y1, y2⟩
          · exact absurd ⟨y.1, y.2, y2⟩ x
          · exact y1
        subst g3
        rw [show decide (nI 1 ≤ nI N ∧ nI N ≤ nI 8) = true from decide_eq_true ⟨nI_le y.1 (by omega), nI_le y.2 (by omega)⟩]
        show Option.bind (loop (stX6_find_22 μ) 5000 ((0 : Int64), nI 1, nI 0)) _ = _
        rw [g1, Option.bind_some]
        try dsimp only
        rw [if_neg (by decide)]
      · have e : decide (nI 1 ≤ nI N ∧ nI N ≤ nI 8) = false := decide_eq_false (fun w => y (by
          by_cases w1 : N < 1
          · exact absurd w.1 (nI_ge w1 (by omega))
          · by_cases w2 : 8 < N
            · exact absurd w.2 (nI_ge w2 (by omega))
            · omega))
        have e2 : loop (stX6_find_22 μ) 5000 ((0 : Int64), nI 0, nI 0) = some ((0 : Int64), nI 0) := by
          refine loop_out (n := 4999) ?_
          unfold stX6_find_22
          simp only [l_0]
          rw [rI_wI_ne (by omega), n3]
          by_cases w : nI N ≤ nI 0
          · rw [if_pos w]
          · rw [if_neg w, if_pos trivial]
        rw [e]
        show Option.bind (loop (stX6_find_22 μ) 5000 ((0 : Int64), nI 0, nI 0)) _ = _
        rw [e2, Option.bind_some]
        try dsimp only
        rw [if_neg (by decide)]
    have hcl : fX5_find p1 σ = some (.inr 4, σ2) := by
      have b0 : fstN (bkP μ 0) (ρ 37) = ρ 37 := fstN_eq (Nat.le_refl _) (fun i hi => decide_eq_false (fun z => z.1 rfl)) (fun z => absurd z (Nat.lt_irrefl _))
      have r0 : fstN (rmP μ 0) (ρ 4) = ρ 4 := fstN_eq (Nat.le_refl _) (fun i hi => decide_eq_false (fun z => NMr_0 (hN.1 i hi) ((NM_0 (NMr_q (hN.1 i hi))).mpr z))) (fun z => absurd z (Nat.lt_irrefl _))
      unfold fX5_find
      simp only [l_0]
      rw [x4, Option.bind_some]
      try dsimp only
      rw [p0, gd_pos (by omega), gd_pos (by omega), bookNamed_h (μ := μ) hR2.1.2.2.1 (by omega) NM0 hN2.2, roomNamed_h (μ := μ) hR2.1.1 (by omega) NM0 hN2.1, b0, r0, Option.bind_some, Option.bind_some]
      have e : ∀ n, jX5_find_31 ((0 : Int64), σ2) (ixO n n) = some (.inr 4, σ2) := by
        intro n
        unfold jX5_find_31 ixO
        rw [if_neg (Nat.lt_irrefl n), if_neg (fun y => y rfl)]
      rw [e, e]
      by_cases z : p1 = nI 0
      · rw [if_pos z]
      · rw [if_neg z]
    rw [hrf, hcl]
    refine ANm_no hI2 4 1 (by decide) rfl ?_
    unfold jX6_find_113
    simp only [l_0, l_1]
    rw [if_neg (fun y => y trivial)]
    exact ref_no 1
end
