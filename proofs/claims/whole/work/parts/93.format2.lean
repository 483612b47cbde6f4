/-! layer 2: formatting -/
section
variable {σ μ : Mem} {ρ : RwQ} {n t : Nat}
theorem I1_io {σ2 : Mem} (h : I1 σ ρ) (F : FrQ (fun k _ _ => k = 4 ∨ k = 5) σ σ2) : I1 σ2 ρ := by
  obtain ⟨⟨x1, x2, x3⟩, b, c, d1, d2, d3⟩ := h
  have hP0 : rP σ2 0 = rP σ 0 := Fr_P F 0
  have hP1 : rP σ2 1 = rP σ 1 := Fr_P F 1
  refine ⟨⟨by rw [hP0]; exact x1, by rw [hP1]; exact x2, by rw [hP0, hP1]; exact x3⟩, by rw [hP0]; exact HR_fr b F (fun k r _ _ => by omega), PC_fr c F (fun k r _ _ => by omega), ⟨fun x hx => ?_, ?_, ?_⟩⟩
  · rw [F.1 53 0 x (by omega), F.1 54 0 x (by omega)]; exact d1 x hx
  · rw [F.1 55 0 0 (by omega)]; exact d2
  · rw [F.1 56 0 0 (by omega)]; exact d3
/-- both sides while they format -/
def Bs (σ μ : Mem) (ρ : RwQ) : Prop := I1 σ ρ ∧ I3 ρ ∧ Cur μ 0 ρ ∧ PMQ μ (plc ρ) ∧ Nms σ μ (rP σ 0) ρ
theorem Bs_f7 {σ2 μ2 : Mem} (h : Bs σ μ ρ) (F : F7 σ σ2 μ μ2) : Bs σ2 μ2 ρ := by
  obtain ⟨h1, h3, C, hP, hN⟩ := h
  refine ⟨I1_io h1 F.1, h3, Cur_fr C F.2 (by omega) (fun k _ _ => by omega), PM_fr hP F.2 (fun k r _ _ => by omega), ?_⟩
  rw [Fr_P F.1 0]
  exact ⟨fun r hr => by rw [Fr_J F.1, Fr_J F.2]; exact hN.1 r hr, fun b hb => by rw [Fr_J F.1, Fr_J F.2]; exact hN.2 b hb⟩
theorem lnN_2 {v : Nat} (h : v ≤ 10) : lnN v ≤ 2 := by
  unfold lnN; split
  · omega
  · split <;> omega
theorem lnN_3 (v : Nat) : lnN v ≤ 3 := by
  unfold lnN; split
  · omega
  · split <;> omega
theorem room_7 (hB : Bs σ μ ρ) (ht : t < 30) {k : Nat} (hk : k < ρ 4) (hn : n + 14 ≤ 160) (hI : I7n n σ μ) (a b : Mem) : ∃ N σ2 μ2, N ≤ n + 14 ∧ jX5_format_38 (nI k, a) (nI t) σ = some (.inl (nI (k + 1), σ2)) ∧ jX6_format_54 (nI k, b) (nI t) μ = some (.inl (nI (k + 1), μ2)) ∧ I7n N σ2 μ2 ∧ F7 σ σ2 μ μ2 := by
  have h3 := hB.2.1
  have h8 := h3.1.1
  have hw := h3.1.2.2.2.1 k hk
  have hpb : PBQ (plc ρ) := plc_PB h3
  have htf := tk_fr h3.1 (PI_plc h3.1) hk ht
  obtain ⟨ls, l0, l1, l2, l3, l4⟩ := hB.2.2.2.2.1 k hk
  obtain ⟨N1, s1, m1, a1, a2, a3, a4, a5⟩ := name_7 (c := rJ σ 1 (rP σ 0) k) (m := rJ μ 11 0 k) ⟨ls, l1, l2, l3, l4⟩ (by omega) hI
  obtain ⟨s2, m2, b1', b2, b3, b4⟩ := say_7 (c := 32) (by omega) (by omega) a4
  have F2 := F7_tr a5 b4
  have B2 := Bs_f7 hB F2
  obtain ⟨T, hT⟩ : ∃ T, T = tkN (plc ρ).1 k t := ⟨_, rfl⟩
  rw [← hT] at htf
  have hbd : rmv ρ k 1 ≤ 10 := hw.2.1.2
  have hT10 : lnN T ≤ 2 := lnN_2 (by omega)
  have hb10 : lnN (rmv ρ k 1) ≤ 2 := lnN_2 (by omega)
  obtain ⟨s3, m3, c1, c2, c3, c4⟩ := num_7 (v := T) (by omega) (by omega) b3
  obtain ⟨s4, m4, d1, d2, d3, d4⟩ := say_7 (c := 47) (by omega) (by omega) c3
  have F4 := F7_tr F2 (F7_tr c4 d4)
  have B4 := Bs_f7 hB F4
  obtain ⟨s5, m5, e1, e2, e3, e4⟩ := num_7 (v := rmv ρ k 1) (by omega) (by omega) d3
  refine ⟨N1 + 1 + lnN T + 1 + lnN (rmv ρ k 1), s5, m5, by omega, ?_, ?_, e3, F7_tr F4 e4⟩
  · unfold jX5_format_38
    try dsimp only
    simp only [l_1, l_32, l_47]
    rw [gd_pos (I1_lt hB.1), gd_inb (by omega) (by omega), nI_clamp (by omega), a2, Option.bind_some, b1', Option.bind_some, taken_h B2.1.2.2.1.1 (by omega) ht, Option.bind_some, ← hT, c1, Option.bind_some, d1, Option.bind_some, gd_pos (I1_lt B4.1), (B4.1.2.1.1.2.2.2.2.2.2.2.1 k hk).2.1, e1, Option.bind_some, nI_add]
  · unfold jX6_format_54
    try dsimp only
    simp only [l_1, l_32, l_47]
    rw [gd_inb (by omega) (by omega), nI_clamp (by omega), a3, Option.bind_some, b2, Option.bind_some, roomIs_s B2.2.2.1 (by omega) (by omega), Option.bind_some, freeIn_s B2.2.2.1 B2.2.2.2.1 hpb h3.1 hk ht, Option.bind_some, pk_sub (by omega), show rmv ρ k 1 - frN ρ (plc ρ).1 k t = T by omega, c2, Option.bind_some, d2, Option.bind_some, roomIs_s B4.2.2.1 (by omega) (by omega), Option.bind_some, e2, Option.bind_some, nI_add]
theorem rooms_7 (ht : t < 30) : ∀ j k, k + j = ρ 4 → ∀ (σ μ : Mem) (n f : Nat), Bs σ μ ρ → n ≤ 16 * k → I7n n σ μ → ∃ N σ2 μ2, N ≤ 16 * ρ 4 ∧ loop (stX5_format_11 (nI t)) (f + 1 + j) (nI k, σ) = some σ2 ∧ loop (stX6_format_29 (nI t)) (f + 1 + j) (nI k, μ) = some μ2 ∧ I7n N σ2 μ2 ∧ F7 σ σ2 μ μ2 := by
  intro j
  induction j with
  | zero =>
    intro k hk σ μ n f hB hn hI
    have h8 := hB.2.1.1.1
    refine ⟨n, σ, μ, by omega, loop_out (n := f) ?_, loop_out (n := f) ?_, hI, F7_rfl σ μ⟩
    · unfold stX5_format_11
      rw [gd_pos (I1_lt hB.1), hB.1.2.1.1.1, if_pos (nI_le (by omega) (by omega))]
    · unfold stX6_format_29
      simp only [l_4]
      rw [get_s hB.2.2.1 (by omega), Option.bind_some, if_pos (nI_le (by omega) (by omega))]
  | succ j ih =>
    intro k hk σ μ n f hB hn hI
    have h8 := hB.2.1.1.1
    have key : ∃ N σ2 μ2, N ≤ 16 * (k + 1) ∧ stX5_format_11 (nI t) (nI k, σ) = some (.inl (nI (k + 1), σ2)) ∧ stX6_format_29 (nI t) (nI k, μ) = some (.inl (nI (k + 1), μ2)) ∧ I7n N σ2 μ2 ∧ F7 σ σ2 μ μ2 := by
      have c1 : ¬ rI σ 20 (rP σ 0) 0 ≤ nI k := by rw [hB.1.2.1.1.1]; exact nI_ge (by omega) (by omega)
      by_cases z : k = 0
      · obtain ⟨N, s2, m2, g1, g2, g3, g4, g5⟩ := room_7 hB ht (k := k) (by omega) (by omega) hI σ μ
        refine ⟨N, s2, m2, by omega, ?_, ?_, g4, g5⟩
        · unfold stX5_format_11
          try dsimp only
          rw [gd_pos (I1_lt hB.1), if_neg c1, if_pos (show nI k ≤ 0 from by rw [z]; decide), g2]
        · unfold stX6_format_29
          simp only [l_4]
          rw [get_s hB.2.2.1 (by omega), Option.bind_some, if_neg (nI_ge (by omega) (by omega)), if_pos (show nI k ≤ 0 from by rw [z]; decide), g3]
      · obtain ⟨s1, m1, a1, a2, a3, a4⟩ := say_7 (c := 44) (by omega) (by omega) hI
        obtain ⟨s2, m2, b1', b2, b3, b4⟩ := say_7 (c := 32) (by omega) (by omega) a3
        have F2 := F7_tr a4 b4
        obtain ⟨N, s3, m3, g1, g2, g3, g4, g5⟩ := room_7 (Bs_f7 hB F2) ht (k := k) (by omega) (by omega) b3 σ μ
        refine ⟨N, s3, m3, by omega, ?_, ?_, g4, F7_tr F2 g5⟩
        · unfold stX5_format_11
          try dsimp only
          simp only [l_32, l_44]
          rw [gd_pos (I1_lt hB.1), if_neg c1, if_neg (show ¬ nI k ≤ 0 from nI_ge (b := k) (a := 0) (by omega) (by omega)), a1, Option.bind_some, b1', Option.bind_some, g2]
        · unfold stX6_format_29
          simp only [l_4, l_32, l_44]
          rw [get_s hB.2.2.1 (by omega), Option.bind_some, if_neg (nI_ge (by omega) (by omega)), if_neg (show ¬ nI k ≤ 0 from nI_ge (b := k) (a := 0) (by omega) (by omega)), a2, Option.bind_some, b2, Option.bind_some, g3]
    obtain ⟨N, s2, m2, g1, g2, g3, g4, g5⟩ := key
    obtain ⟨N2, s3, m3, k1, k2, k3, k4, k5⟩ := ih (k + 1) (by omega) s2 m2 N f (Bs_f7 hB g5) g1 g4
    exact ⟨N2, s3, m3, k1, (loop_in (n := f + 1 + j) g2).trans k2, (loop_in (n := f + 1 + j) g3).trans k3, k4, F7_tr g5 k5⟩
theorem ANm_format (hIn : InQ σ μ) (p1 : Int32) : ANm (fX5_format p1 σ) (fX6_format p1 μ) [(3, 1)] InQ := by
  obtain ⟨ρ, h1, C, h3, hN, h5, h6, h7⟩ := id hIn
  have h8 := h3.1.1
  have C0 := cur0 C
  rcases ix_em p1 30 with ⟨t, ht, rfl⟩ | q
  · obtain ⟨μ1, a0, a1, a2, a3⟩ := placesAll_s C0 h3.1
    have hQ : QTQ μ μ1 := QT_tr QT_60 (QT_pl a3)
    have hIn1 : InQ σ μ1 := In_qt hIn hQ
    have h7a := I7_fr (K := fun _ _ _ => False) (KJ := fun _ _ _ => False) (Km := fun k _ _ => k = 60 ∨ (76 ≤ k ∧ k ≤ 80)) (KJm := fun _ _ _ => False) h7 (FrG_rfl σ) (Fr_G (Fr_tr (Fr_wI (Or.inl rfl)) (Fr_mono a3 (fun k j r z => Or.inr z.1)))) (fun k x r z => z.elim) (fun k x r z => by omega)
    have h6a := I6_fr (K := fun _ _ _ => False) (KJ := fun _ _ _ => False) (Km := fun k _ _ => k = 60 ∨ (76 ≤ k ∧ k ≤ 80)) (KJm := fun _ _ _ => False) h6 (FrG_rfl σ) (Fr_G (Fr_tr (Fr_wI (Or.inl rfl)) (Fr_mono a3 (fun k j r z => Or.inr z.1)))) (fun k x r z => z.elim) (fun k x r z => by omega)
    have F0 : F7 σ (wI σ 4 0 0 (nI 0)) μ1 (wI μ1 69 0 0 (nI 0)) := ⟨Fr_wI (Or.inl rfl), Fr_wI (Or.inr rfl)⟩
    have B1 : Bs σ μ1 ρ := ⟨h1, h3, a1, a2, Nms_qt hN hQ⟩
    have B0 := Bs_f7 B1 F0
    obtain ⟨N, s2, m2, g1, g2, g3, g4, g5⟩ := rooms_7 ht (ρ 4) 0 (by omega) _ _ 0 (4999 - ρ 4) B0 (by omega) ⟨rI_wI_self, rI_wI_self, fun i hi => absurd hi (Nat.not_lt_zero _)⟩
    rw [show 4999 - ρ 4 + 1 + ρ 4 = 5000 by omega] at g2 g3
    have F2 := F7_tr F0 g5
    have B2 := Bs_f7 B1 F2
    obtain ⟨w, hw⟩ : ∃ w, w = wkdN ρ (plc ρ) t := ⟨_, rfl⟩
    have hw204 : w ≤ 204 := by rw [hw]; exact wkdN_le h3.1 (Nat.le_refl _)
    have h60 : rI μ1 60 0 0 = nI 0 := by rw [a3.1 60 0 0 (by unfold KPm; omega), rI_wI_self]
    have wC := walkedP_h B2.1 h3 ht
    have wR := walkedIn_s B2.2.2.1 B2.2.2.2.1 (plc_PB h3) h3.1 ht
    rw [← hw] at wC wR
    have fin : ∀ {N : Nat} {s m : Mem}, N ≤ 160 → I7n N s m → F7 σ s μ1 m → rI s 4 0 0 = rI m 69 0 0 ∧ rI m 60 0 0 = nI 0 ∧ InQ s m := by
      intro N s m hN2 hI F
      refine ⟨by rw [hI.1, hI.2.1], by rw [F.2.1 60 0 0 (by omega)]; exact h60, In_io hIn1 (Fr_mono F.1 (fun k j r z => by omega)) (Fr_mono F.2 (fun k j r z => by omega)) ?_ ⟨?_, N, hN2, hI⟩⟩
      · exact I6_fr (K := fun k _ _ => k = 4 ∨ k = 5) (KJ := fun _ _ _ => False) (Km := fun k _ _ => k = 68 ∨ k = 69) (KJm := fun _ _ _ => False) h6a (Fr_G F.1) (Fr_G F.2) (fun k x r z => by omega) (fun k x r z => by omega)
      · rw [F.1.1 1 0 0 (by omega), F.2.1 67 0 0 (by omega)]; exact h7a.1
    by_cases z : w = 0
    · obtain ⟨y1, y2, y3⟩ := fin (by omega) g4 F2
      refine Or.inl ⟨rI s2 4 0 0, s2, ?_, ?_⟩
      · unfold fX5_format jX5_format_128
        simp only [l_0]
        rw [chkN_Y ht, Option.bind_some, Sum.elim_inl, g2, Option.bind_some, wC, Option.bind_some, if_pos (nI_le (by omega) (by omega))]
      · unfold fX6_format jX6_format_136
        simp only [l_0]
        rw [isNight_Y ht, Option.bind_some, if_pos (by decide), a0, Option.bind_some, g3, Option.bind_some, wR, Option.bind_some, if_pos (nI_le (by omega) (by omega))]
        exact ⟨_, rfl, y1.symm, y2, y3⟩
    · obtain ⟨s3, m3, b1', b2, b3, b4⟩ := say_7 (c := 32) (by omega) (by omega) g4
      obtain ⟨s4, m4, c1, c2, c3, c4⟩ := say_7 (c := 43) (by omega) (by omega) b3
      have hl := lnN_3 w
      obtain ⟨s5, m5, d1, d2, d3, d4⟩ := num_7 (v := w) (by omega) (by omega) c3
      obtain ⟨y1, y2, y3⟩ := fin (by omega) d3 (F7_tr F2 (F7_tr b4 (F7_tr c4 d4)))
      refine Or.inl ⟨rI s5 4 0 0, s5, ?_, ?_⟩
      · unfold fX5_format jX5_format_128
        simp only [l_0, l_32, l_43]
        rw [chkN_Y ht, Option.bind_some, Sum.elim_inl, g2, Option.bind_some, wC, Option.bind_some, if_neg (nI_ge (by omega) (by omega)), b1', Option.bind_some, c1, Option.bind_some, d1, Option.bind_some]
      · unfold fX6_format jX6_format_136
        simp only [l_0, l_32, l_43]
        rw [isNight_Y ht, Option.bind_some, if_pos (by decide), a0, Option.bind_some, g3, Option.bind_some, wR, Option.bind_some, if_neg (nI_ge (by omega) (by omega)), b2, Option.bind_some, c2, Option.bind_some, d2, Option.bind_some]
        exact ⟨_, rfl, y1.symm, y2, y3⟩
  · refine ANm_no hIn 3 1 (by decide) ?_ ?_
    · unfold fX5_format
      rw [chkN_N q, Option.bind_some, Sum.elim_inr]
    · unfold fX6_format
      simp only [l_0, l_1]
      rw [isNight_N q, Option.bind_some, if_neg (by decide)]
      exact ref_no 1
end
