/-! p47, layer 2: the whole text read -/
section
variable {xs : Nat → Int32} {L : Nat} {ls q : List Nat} {σ : Mem} {j : Nat}
theorem eq_R (r : Nat) (q : List Nat) : txR xs L r ++ q = wdR ++ 32 :: ([97 + r] ++ 32 :: (sT (qM xs L r 0 + 1) ++ 32 :: (dec (qM xs L r 1) ++ 32 :: (dec (qM xs L r 2) ++ 32 :: (dec (qM xs L r 3) ++ 59 :: q))))) := by
  have e : sT 11 = wdR ++ [32] := by decide +kernel
  unfold txR
  rw [e]
  simp only [List.append_assoc, List.cons_append, List.nil_append]
theorem eq_S (q : List Nat) : txS xs L ++ q = wdV ++ 32 :: (dec (qS xs L 0) ++ 59 :: (wdW ++ 32 :: (dec (qS xs L 1) ++ 59 :: (wdO2 ++ 32 :: (dec (qS xs L 2) ++ 32 :: (dec (qS xs L 3) ++ 59 :: q)))))) := by
  have e1 : sT 12 = wdV ++ [32] := by decide +kernel
  have e2 : sT 13 = 59 :: (wdW ++ [32]) := by decide +kernel
  have e3 : sT 14 = 59 :: (wdO2 ++ [32]) := by decide +kernel
  unfold txS
  rw [e1, e2, e3]
  simp only [List.append_assoc, List.cons_append, List.nil_append]
theorem eq_K (b : Nat) (q : List Nat) : txK xs L b ++ q = wdB ++ 32 :: ([103, 97 + b] ++ 32 :: (dec (qK xs L b 0) ++ 32 :: (dec (qK xs L b 1) ++ 32 :: (dec (qK xs L b 2) ++ 32 :: (dec (qK xs L b 3) ++ 32 :: (dec (qK xs L b 4) ++ 32 :: (dec (qK xs L b 5) ++ tlB (qK xs L b 6) q))))))) := by
  have e1 : sT 15 = wdB ++ [32, 103] := by decide +kernel
  have e2 : sT 16 = 32 :: (wdT ++ [59]) := by decide +kernel
  have e3 : sT 17 = [59] := by decide +kernel
  have en : txN xs L b 6 = (((((([] ++ (32 :: dec (qK xs L b 0))) ++ (32 :: dec (qK xs L b 1))) ++ (32 :: dec (qK xs L b 2))) ++ (32 :: dec (qK xs L b 3))) ++ (32 :: dec (qK xs L b 4))) ++ (32 :: dec (qK xs L b 5))) := rfl
  unfold txK tlB
  rw [e1, e2, e3, en]
  split
  all_goals
    simp only [List.append_assoc, List.cons_append, List.nil_append]
theorem txRs_pre : ∀ n i, i ≤ n → ∃ z, txRs xs L n = txRs xs L i ++ z := by
  intro n
  induction n with
  | zero => intro i hi; exact ⟨[], by rw [show i = 0 by omega] <;> rfl⟩
  | succ n ih =>
    intro i hi
    by_cases e : i = n + 1
    · exact ⟨[], by rw [e, List.append_nil]⟩
    · obtain ⟨z, hz⟩ := ih i (by omega)
      exact ⟨z ++ txR xs L n, by show txRs xs L n ++ txR xs L n = _; rw [hz, List.append_assoc]⟩
theorem txKs_pre : ∀ n i, i ≤ n → ∃ z, txKs xs L n = txKs xs L i ++ z := by
  intro n
  induction n with
  | zero => intro i hi; exact ⟨[], by rw [show i = 0 by omega] <;> rfl⟩
  | succ n ih =>
    intro i hi
    by_cases e : i = n + 1
    · exact ⟨[], by rw [e, List.append_nil]⟩
    · obtain ⟨z, hz⟩ := ih i (by omega)
      exact ⟨z ++ txK xs L n, by show txKs xs L n ++ txK xs L n = _; rw [hz, List.append_assoc]⟩
/-- what is left behind i rooms; behind k bookings -/
def rsR (xs : Nat → Int32) (L i : Nat) : List Nat := (tX xs L).drop (txRs xs L i).length
def rsK (xs : Nat → Int32) (L k : Nat) : List Nat := (txKs xs L (qB xs L)).drop (txKs xs L k).length
theorem rsK_s {k : Nat} (hk : k < qB xs L) : rsK xs L k = txK xs L k ++ rsK xs L (k + 1) := by
  obtain ⟨z, hz⟩ := txKs_pre (xs := xs) (L := L) (qB xs L) (k + 1) (by omega)
  unfold rsK
  rw [hz, List.drop_left, show txKs xs L (k + 1) = txKs xs L k ++ txK xs L k from rfl, List.append_assoc, List.drop_left]
theorem rsK_e : rsK xs L (qB xs L) = [] := by
  unfold rsK
  rw [List.drop_length]
theorem rsR_s {i : Nat} (hi : i < qR xs L) : rsR xs L i = txR xs L i ++ rsR xs L (i + 1) := by
  obtain ⟨z, hz⟩ := txRs_pre (xs := xs) (L := L) (qR xs L) (i + 1) (by omega)
  have e : tX xs L = txRs xs L (i + 1) ++ (z ++ (txS xs L ++ txKs xs L (qB xs L))) := by
    unfold tX
    rw [hz]
    simp only [List.append_assoc]
  unfold rsR
  rw [e, List.drop_left, show txRs xs L (i + 1) = txRs xs L i ++ txR xs L i from rfl, List.append_assoc, List.drop_left]
theorem rsR_e : rsR xs L (qR xs L) = txS xs L ++ rsK xs L 0 := by
  unfold rsR tX
  rw [List.append_assoc, List.drop_left]
  rfl
theorem nbK (k : Nat) (hk : k ≤ qB xs L) : nbH (rsK xs L k) := by
  by_cases e : k = qB xs L
  · rw [e, rsK_e]
    intro c q2 h
    cases h
  · rw [rsK_s (by omega), eq_K]
    exact nb_w wdB_ok _
theorem nbR (i : Nat) (hi : i ≤ qR xs L) : nbH (rsR xs L i) := by
  by_cases e : i = qR xs L
  · rw [e, rsR_e, eq_S]
    exact nb_w wdV_ok.1 _
  · rw [rsR_s (by omega), eq_R]
    exact nb_w wdR_ok _
theorem stmts_A (L0 : LD1 σ j (tX xs L) (tX xs L) ρe) : ∃ σ2, loop (stX2_read_15 j) 5000 (nI 0, σ) = some (.inl σ2) ∧ LD1 σ2 j (tX xs L) [] (rwB xs L (qB xs L)) ∧ FK j σ σ2 := by
  have hR := qR_rng (xs := xs) (L := L)
  have hB := qB_rng (xs := xs) (L := L)
  have hS := qS_rng (xs := xs) (L := L)
  have ha : asc (tX xs L) := tX_ch
  obtain ⟨a1, ⟨i1, i2, i3⟩, e1⟩ := loop_go (step := stX2_read_15 j) (fun i (a : Int32 × Mem) => a.1 = nI i ∧ LD1 a.2 j (tX xs L) (rsR xs L i) (rwR xs L i) ∧ FK j σ a.2) (qR xs L) (fun k a hk ⟨h1, h2, h3⟩ => by
    obtain ⟨ai, as⟩ := a
    try dsimp only at h1 h2 h3
    subst h1
    have hm := qM_rng (xs := xs) (L := L) k
    have e4 := rwR_4 (xs := xs) (L := L) k
    rw [rsR_s hk, eq_R] at h2
    have st := st_room (j := j) (ls := tX xs L) (q := rsR xs L (k + 1)) (ρ := rwR xs L k) (b := qM xs L k 1) (a := qM xs L k 2) (p := qM xs L k 3) (kd := qM xs L k 0) ha (nbR _ (by omega)) (by rw [e4]; omega) (by omega) (by omega) (by omega) (by omega)
    rw [e4] at st
    obtain ⟨s2, f1, f2, f3⟩ := st as k (by omega) h2
    exact ⟨_, f1, rfl, f2, FK_tr h3 f3⟩) (4999 - qR xs L - qB xs L - 3 + 1 + qB xs L + 1 + 1 + 1) (nI 0, σ) ⟨rfl, by
      have e : rsR xs L 0 = tX xs L := rfl
      rw [e]; exact L0, FK_rfl σ⟩
  obtain ⟨ai, as⟩ := a1
  try dsimp only at i1 i2 i3
  subst i1
  rw [rsR_e, eq_S] at i2
  obtain ⟨b2, g1, g2, g3⟩ := st_over ha (nb_w wdV_ok.2.1 _) (by omega) as (qR xs L) (by omega) i2
  obtain ⟨b3, k1, k2, k3⟩ := st_walk ha (nb_w wdV_ok.2.2 _) (by omega) b2 (qR xs L + 1) (by omega) g2
  obtain ⟨b4, m1, m2, m3⟩ := st_offer ha (nbK 0 (by omega)) (by omega) (by omega) b3 (qR xs L + 1 + 1) (by omega) k2
  obtain ⟨c1, ⟨n1, n2, n3⟩, e2⟩ := loop_go (step := stX2_read_15 j) (fun k (a : Int32 × Mem) => a.1 = nI (qR xs L + 1 + 1 + 1 + k) ∧ LD1 a.2 j (tX xs L) (rsK xs L k) (rwB xs L k) ∧ FK j σ a.2) (qB xs L) (fun k a hk ⟨h1, h2, h3⟩ => by
    obtain ⟨ai, as⟩ := a
    try dsimp only at h1 h2 h3
    subst h1
    have hm := qK_rng (xs := xs) (L := L) k
    have e37 := rwB_37 (xs := xs) (L := L) k (by omega)
    rw [rsK_s hk, eq_K] at h2
    have st := st_book (j := j) (ls := tX xs L) (q := rsK xs L (k + 1)) (ρ := rwB xs L k) (f := qK xs L k 0) (n := qK xs L k 1) (w := qK xs L k 2) (m := qK xs L k 3) (a := qK xs L k 4) (c := qK xs L k 5) (t := qK xs L k 6) ha (nbK _ (by omega)) (by rw [e37]; omega) (by omega) (by omega) (by omega) (by split <;> omega) (by omega) (by omega) (by omega)
    rw [e37] at st
    obtain ⟨s2, f1, f2, f3⟩ := st as (qR xs L + 1 + 1 + 1 + k) (by omega) h2
    exact ⟨(nI (qR xs L + 1 + 1 + 1 + (k + 1)), s2), f1, rfl, f2, FK_tr h3 f3⟩) (4999 - qR xs L - qB xs L - 3 + 1) (nI (qR xs L + 1 + 1 + 1), b4) ⟨rfl, m2, FK_tr (FK_tr (FK_tr i3 g3) k3) m3⟩
  obtain ⟨ci, cs⟩ := c1
  try dsimp only at n1 n2 n3
  subst n1
  rw [rsK_e] at n2
  refine ⟨cs, ?_, n2, n3⟩
  have e5 : 5000 = qR xs L + (4999 - qR xs L - qB xs L - 3 + 1 + qB xs L + 1 + 1 + 1) := by omega
  rw [e5, e1, loop_one g1, loop_one k1, loop_one m1, Nat.add_comm _ (qB xs L), e2, loop_end (st_nil n2 (by omega))]
theorem read_A (T : TxC σ (tX xs L).length (Bt (tX xs L))) : ∃ σ2, fX2_read j σ = some (-nI 1, σ2) ∧ HR σ2 j (rwB xs L (qB xs L)) ∧ I3 (rwB xs L (qB xs L)) ∧ FK j σ σ2 := by
  have ha : asc (tX xs L) := tX_ch
  unfold fX2_read
  obtain ⟨s1, a1, a2, a3⟩ := clear_h σ j
  rw [a1, Option.bind_some]
  have F1 : FrQ (fun k x r => k = 8 ∨ KHQ j k x r) σ (wI s1 8 0 0 (nI 0)) := Fr_tr (Fr_mono a3 (fun k x r z => Or.inr z)) (Fr_wI (Or.inl rfl))
  have T1 : TxC (wI s1 8 0 0 (nI 0)) (tX xs L).length (Bt (tX xs L)) := ⟨T.1, by rw [F1.1 7 0 0 (by unfold KHQ; omega)]; exact T.2.1, fun i hi => by rw [F1.1 6 0 i (by unfold KHQ; omega)]; exact T.2.2 i hi⟩
  obtain ⟨s2, b1', b2, b3⟩ := advance_h T1 (Nat.zero_le _) rI_wI_self
  have e0 : skp (tX xs L).length (Bt (tX xs L)) 0 = 0 := skp_0 (q := tX xs L) ha rfl (Nat.zero_le _) (nbR 0 (Nat.zero_le _))
  rw [e0] at b2
  rw [show fX2_advance (wI s1 8 0 0 (0 : Int32)) = some s2 from b1', Option.bind_some]
  have T2 : TxC s2 (tX xs L).length (Bt (tX xs L)) := ⟨T.1, by rw [b3.1 7 0 0 (by omega)]; exact T1.2.1, fun i hi => by rw [b3.1 6 0 i (by omega)]; exact T1.2.2 i hi⟩
  have hR2 : HR s2 j ρe := HR_FA (HR_fr a2 (K := fun k _ _ => k = 8) (Fr_wI rfl) (fun k r h1 h2 z => by omega)) b3
  obtain ⟨s3, c1, c2, c3⟩ := stmts_A (xs := xs) (L := L) (j := j) (σ := s2) ⟨⟨0, ⟨T2, Nat.zero_le _, b2⟩, rfl⟩, hR2, ⟨ρe_WF.1, ρe_WF.2, by decide⟩, ⟨fun r hr => absurd hr (by simp [ρe]), fun b hb => absurd hb (by simp [ρe])⟩⟩
  rw [show loop (stX2_read_15 j) 5000 ((0 : Int32), s2) = some (.inl s3) from c1, Option.bind_some, Sum.elim_inl]
  refine ⟨s3, rfl, c2.2.1, c2.2.2.1, FK_tr (FK_tr (Fr_G (Fr_mono F1 (fun k x r z => by unfold KHQ at z; omega))) (FA_K b3)) c3⟩
end
