/-! layer 2: the reference's placing: beds given out, all placed -/
theorem okB_rng {ρ h : RwQ} {b S kd x : Nat} (hq : okB ρ h b S kd x = true) : x % 10 < rmv ρ (x / 10) 1 ∧ S / 2 ^ (x / 10) % 2 = 1 ∧ rmv ρ (x / 10) 0 = kd ∧ freeB ρ h b x = true := by
  unfold okB at hq
  rw [Bool.and_eq_true, decide_eq_true_iff] at hq
  exact ⟨hq.1.1, hq.1.2.1, hq.1.2.2, hq.2⟩
section
variable {μ : Mem} {s : Nat} {ρ : RwQ} {π : PnQ}
/-- behind a call of sleeps: the person has the first bed of the kind, or there is none -/
def SlpQ (μ : Mem) (s : Nat) (ρ : RwQ) (π : PnQ) (b p S kd : Nat) (r : Int32 × Mem) : Prop :=
  if ffB ρ π.1 b S kd < 10 * ρ 4 then r.1 = nI 1 ∧ Cur r.2 s ρ ∧ PMQ r.2 (tkH ρ π.1 b (ffB ρ π.1 b S kd), π.2.1, upQ π.2.2 (12 * b + p) (ffB ρ π.1 b S kd + 1)) ∧ FrQ KPm μ r.2 else r.1 = nI 0 ∧ r.2 = μ
theorem sleeps_s (C : Cur μ s ρ) (hW : WF ρ) (hP : PMQ μ π) (hB : PBQ π) {b p S kd : Nat} (hb : b < ρ 37) (hp : p < 12) (hS : S < 256) (hkd : kd ≤ 2) : OkQ (fX6_sleeps (nI b) (nI p) (nI kd) (nI S) μ) (SlpQ μ s ρ π b p S kd) := by
  have h8 := hW.1
  have h17 := hW.2.1
  have hw := hW.2.2.2.2 b hb
  have hfin : ∀ x, x < 10 * ρ 4 → (∀ y, y < x → okB ρ π.1 b S kd y = false) → okB ρ π.1 b S kd x = true → ∀ μ2, Cur μ2 s ρ → PMQ μ2 (tkH ρ π.1 b x, π.2.1, upQ π.2.2 (12 * b + p) (x + 1)) → FrQ KPm μ μ2 → SlpQ μ s ρ π b p S kd (nI 1, μ2) := by
    intro x hx hn hy μ2 c1 c2 c3
    have e : ffB ρ π.1 b S kd = x := fstN_eq (by omega) hn (fun _ => hy)
    unfold SlpQ
    rw [e, if_pos hx]
    exact ⟨rfl, c1, c2, c3⟩
  have hl : OkQ (loop (stX6_sleeps_3 μ (nI S) (nI kd) (nI b) (nI p)) 5000 (nI 0)) (fun r => Sum.elim (fun _ => ∀ y, y < 10 * ρ 4 → okB ρ π.1 b S kd y = false) (fun w => SlpQ μ s ρ π b p S kd w) r) := by
    refine loop_ok (ρ 4) (fun k a => a = nI k ∧ ∀ y, y < 10 * k → okB ρ π.1 b S kd y = false) (by omega) ⟨rfl, fun y hy => by omega⟩ ?_
    rintro k a hk ⟨e1, e2⟩
    subst e1
    unfold stX6_sleeps_3 jX6_sleeps_85
    simp only [l_0, l_1, l_4]
    rw [get_s C (by omega), Option.bind_some]
    by_cases hkn : k = ρ 4
    · subst hkn
      rw [if_pos (nI_le (Nat.le_refl _) (by omega))]
      exact ⟨_, rfl, e2⟩
    · have hwr := hW.2.2.2.1 k (by omega)
      have hk0 := hwr.1
      have hk1 := hwr.2.1.2
      rw [if_neg (nI_ge (by omega) (by omega)), nI_bit (by omega) (by omega)]; simp (disch := omega) only [nI_eq]; rw [roomIs_s C (by omega) (by omega), Option.bind_some]; simp (disch := omega) only [nI_eq]; rw [nI_add]
      have hskip : (¬ (S / 2 ^ k % 2 = 1 ∧ rmv ρ k 0 = kd)) → OkQ (some (Sum.inl (nI (k + 1))) : Option (Int32 ⊕ (Unit ⊕ (Int32 × Mem)))) (fun r => Sum.elim (fun a2 => k < ρ 4 ∧ a2 = nI (k + 1) ∧ ∀ y, y < 10 * (k + 1) → okB ρ π.1 b S kd y = false) (fun r => Sum.elim (fun _ => ∀ y, y < 10 * ρ 4 → okB ρ π.1 b S kd y = false) (fun w => SlpQ μ s ρ π b p S kd w) r) r) := by
        intro hq
        refine ⟨_, rfl, by omega, rfl, fun y hy => ?_⟩
        by_cases hyk : y < 10 * k
        · exact e2 y hyk
        · have e10 : y / 10 = k := by omega
          unfold okB
          rw [e10, decide_eq_false (fun w => hq w.2), Bool.false_and]
      by_cases q1 : S / 2 ^ k % 2 = 0
      · rw [if_pos q1]
        exact hskip (by omega)
      · rw [if_neg q1]
        by_cases q2 : rmv ρ k 0 = kd
        · rw [if_pos q2]
          have hin : OkQ (loop (stX6_sleeps_40 (nI k) μ (nI b) (nI p)) 5000 (nI 0)) (fun r => Sum.elim (fun _ => ∀ y, y < 10 * (k + 1) → okB ρ π.1 b S kd y = false) (fun w => SlpQ μ s ρ π b p S kd w) r) := by
            refine loop_ok (rmv ρ k 1) (fun d a => a = nI d ∧ ∀ y, y < 10 * k + d → okB ρ π.1 b S kd y = false) (by omega) ⟨rfl, fun y hy => e2 y (by omega)⟩ ?_
            rintro d a hd ⟨f1, f2⟩
            subst f1
            unfold stX6_sleeps_40
            simp only [l_0, l_1]
            rw [roomIs_s C (by omega) (by omega), Option.bind_some]
            by_cases hdn : d = rmv ρ k 1
            · subst hdn
              rw [if_pos (nI_le (Nat.le_refl _) (by omega))]
              refine ⟨_, rfl, fun y hy => ?_⟩
              by_cases hyk : y < 10 * k + rmv ρ k 1
              · exact f2 y hyk
              · have e10 : y / 10 = k := by omega
                unfold okB
                rw [e10, decide_eq_false (fun w => by have := w.1; omega), Bool.false_and]
            · rw [if_neg (nI_ge (by omega) (by omega)), isFreeFor_s C hP.1 hB.1 (by omega) hw (by omega) (by omega), Option.bind_some]; simp (disch := omega) only [b1_z]
              have hok : okB ρ π.1 b S kd (10 * k + d) = freeB ρ π.1 b (10 * k + d) := by
                have e10 : (10 * k + d) / 10 = k := by omega
                have e11 : (10 * k + d) % 10 = d := by omega
                unfold okB
                rw [e10, e11, decide_eq_true ⟨by omega, by omega, q2⟩, Bool.true_and]
              by_cases q3 : freeB ρ π.1 b (10 * k + d) = true
              · rw [if_pos (by rw [q3]; decide)]
                refine Ok_bind (takes_s C hP (by omega) hw hp (by omega) (by omega)) ?_
                rintro μ2 ⟨c1, c2, c3⟩
                exact ⟨_, rfl, hfin (10 * k + d) (by omega) f2 (by rw [hok]; exact q3) μ2 c1 c2 c3⟩
              · rw [if_neg (fun q => q (by simpa using q3)), nI_add]
                refine ⟨_, rfl, by omega, rfl, fun y hy => ?_⟩
                by_cases hyk : y = 10 * k + d
                · subst hyk
                  rw [hok]; simpa using q3
                · exact f2 y (by omega)
          refine Ok_bind hin ?_
          rintro (z | w) hz
          · exact ⟨_, rfl, by omega, rfl, hz⟩
          · exact ⟨_, rfl, hz⟩
        · rw [if_neg q2]
          exact hskip (fun w => q2 w.2)
  unfold fX6_sleeps
  simp only [l_0]
  refine Ok_bind hl ?_
  rintro (z | w) hz
  · refine ⟨_, rfl, ?_⟩
    unfold SlpQ
    have e : ffB ρ π.1 b S kd = 10 * ρ 4 := fstN_eq (Nat.le_refl _) hz (fun q => absurd q (Nat.lt_irrefl _))
    rw [e, if_neg (Nat.lt_irrefl _)]
    exact ⟨rfl, rfl⟩
  · exact ⟨_, rfl, hz⟩
theorem givesBeds_s (C : Cur μ s ρ) (hW : WF ρ) (hP : PMQ μ π) (hB : PBQ π) {b S : Nat} (hb : b < ρ 37) (hS : S < 256) : OkQ (fX6_givesBeds (nI b) (nI S) μ) (fun μ2 => Cur μ2 s ρ ∧ PMQ μ2 ((gvS ρ b S π.1 π.2.2 (prs ρ b)).1, π.2.1, (gvS ρ b S π.1 π.2.2 (prs ρ b)).2) ∧ FrQ KPm μ μ2) := by
  have h8 := hW.1
  have h17 := hW.2.1
  have hw := hW.2.2.2.2 b hb
  have hpr := WF_prs hW hb
  have hl : OkQ (loop (stX6_givesBeds_2 (nI b) (nI S)) 5000 (nI 0, μ)) (fun μ2 => Cur μ2 s ρ ∧ PMQ μ2 ((gvS ρ b S π.1 π.2.2 (prs ρ b)).1, π.2.1, (gvS ρ b S π.1 π.2.2 (prs ρ b)).2) ∧ FrQ KPm μ μ2) := by
    refine loop_ok (prs ρ b) (fun k a => a.1 = nI k ∧ Cur a.2 s ρ ∧ PMQ a.2 ((gvS ρ b S π.1 π.2.2 k).1, π.2.1, (gvS ρ b S π.1 π.2.2 k).2) ∧ FrQ KPm μ a.2) (by omega) ⟨rfl, C, hP, Fr_rfl μ⟩ ?_
    rintro k ⟨a1, a2⟩ hk ⟨e1, C2, P2, F2⟩
    try dsimp only at e1 C2 P2 F2
    subst e1
    have hg := PB_gvS (S := S) (b := b) (by omega) h8 hB.1 hB.2.2 k
    have B2 : PBQ ((gvS ρ b S π.1 π.2.2 k).1, π.2.1, (gvS ρ b S π.1 π.2.2 k).2) := ⟨hg.1, hB.2.1, hg.2⟩
    unfold stX6_givesBeds_2
    try dsimp only
    simp only [l_1, l_2]
    rw [persons_s C2 (by omega), Option.bind_some]
    by_cases hkn : k = prs ρ b
    · subst hkn
      rw [if_pos (nI_le (Nat.le_refl _) (by omega))]
      exact ⟨_, rfl, C2, P2, F2⟩
    · have h2 := hw.2.2.1.1
      rw [if_neg (nI_ge (by omega) (by omega)), of_s C2 (by omega) (by omega), Option.bind_some]; simp (disch := omega) only [nI_leI]
      have eG : gvS ρ b S π.1 π.2.2 (k + 1) = if bedFor ρ (gvS ρ b S π.1 π.2.2 k).1 b S k < 10 * ρ 4 then (tkH ρ (gvS ρ b S π.1 π.2.2 k).1 b (bedFor ρ (gvS ρ b S π.1 π.2.2 k).1 b S k), upQ (gvS ρ b S π.1 π.2.2 k).2 (12 * b + k) (bedFor ρ (gvS ρ b S π.1 π.2.2 k).1 b S k + 1)) else gvS ρ b S π.1 π.2.2 k := rfl
      have hmain : ∀ kd, kd ≤ 2 → kd = (if k < bkv ρ b 2 then 1 else 2) → OkQ (jX6_givesBeds_29 (nI b) (nI k, a2) (nI S) (nI kd)) (fun r => Sum.elim (fun a2 => k < prs ρ b ∧ a2.1 = nI (k + 1) ∧ Cur a2.2 s ρ ∧ PMQ a2.2 ((gvS ρ b S π.1 π.2.2 (k + 1)).1, π.2.1, (gvS ρ b S π.1 π.2.2 (k + 1)).2) ∧ FrQ KPm μ a2.2) (fun μ2 => Cur μ2 s ρ ∧ PMQ μ2 ((gvS ρ b S π.1 π.2.2 (prs ρ b)).1, π.2.1, (gvS ρ b S π.1 π.2.2 (prs ρ b)).2) ∧ FrQ KPm μ μ2) r) := by
        intro kd hkd2 hkd
        unfold jX6_givesBeds_29 jX6_givesBeds_50
        try dsimp only
        simp only [l_0, l_1]
        refine Ok_bind (sleeps_s C2 hW P2 B2 hb (by omega) hS hkd2) ?_
        rintro ⟨q1, q2⟩ hq
        unfold SlpQ at hq
        try dsimp only at hq ⊢
        rw [nI_add]
        have eb : bedFor ρ (gvS ρ b S π.1 π.2.2 k).1 b S k = if ffB ρ (gvS ρ b S π.1 π.2.2 k).1 b S kd < 10 * ρ 4 then ffB ρ (gvS ρ b S π.1 π.2.2 k).1 b S kd else ffB ρ (gvS ρ b S π.1 π.2.2 k).1 b S 0 := by
          unfold bedFor; rw [← hkd]
        by_cases hf : ffB ρ (gvS ρ b S π.1 π.2.2 k).1 b S kd < 10 * ρ 4
        · rw [if_pos hf] at hq eb
          obtain ⟨g1, g2, g3, g4⟩ := hq
          rw [eb, if_pos hf] at eG
          subst g1
          rw [if_pos (by decide)]
          exact ⟨_, rfl, by omega, rfl, g2, by rw [eG]; exact g3, Fr_tr F2 g4⟩
        · rw [if_neg hf] at hq eb
          obtain ⟨g1, g2⟩ := hq
          subst g1 g2
          rw [if_neg (by decide)]
          rw [eb] at eG
          refine Ok_bind (sleeps_s C2 hW P2 B2 hb (by omega) hS (kd := 0) (by omega)) ?_
          rintro ⟨r1, r2⟩ hr
          unfold SlpQ at hr
          try dsimp only at hr ⊢
          by_cases hf0 : ffB ρ (gvS ρ b S π.1 π.2.2 k).1 b S 0 < 10 * ρ 4
          · rw [if_pos hf0] at hr
            obtain ⟨g1, g2, g3, g4⟩ := hr
            rw [if_pos hf0] at eG
            exact ⟨_, rfl, by omega, rfl, g2, by rw [eG]; exact g3, Fr_tr F2 g4⟩
          · rw [if_neg hf0] at hr
            obtain ⟨g1, g2⟩ := hr
            subst g1 g2
            rw [if_neg hf0] at eG
            exact ⟨_, rfl, by omega, rfl, C2, by rw [eG]; exact P2, F2⟩
      by_cases hf : bkv ρ b 2 ≤ k
      · rw [if_pos hf]
        exact hmain 2 (by omega) (by rw [if_neg (by omega)])
      · rw [if_neg hf]
        exact hmain 1 (by omega) (by rw [if_pos (by omega)])
  unfold fX6_givesBeds
  simp only [l_0]
  refine Ok_bind hl ?_
  intro μ2 h2
  exact ⟨_, rfl, h2⟩
theorem PM_bec (hP : PMQ μ π) {b v : Nat} : PMQ (wI μ 77 0 b (nI v)) (π.1, upQ π.2.1 b v, π.2.2) := by
  refine ⟨fun i hi => ?_, fun x hx => ?_, fun i hi h0 => ?_⟩
  · rw [rI_wI, if_neg (by omega)]; exact hP.1 i hi
  · rw [rI_wI]
    by_cases h : x = b
    · subst h
      rw [if_pos ⟨rfl, rfl, rfl⟩]
      show nI v = nI (upQ π.2.1 x v x)
      rw [up_s]
    · rw [if_neg (fun q => h q.2.2), hP.2.1 x hx]
      show nI _ = nI (upQ π.2.1 b v x)
      rw [up_n h]
  · rw [rI_wI, if_neg (by omega), rI_wI, if_neg (by omega)]
    exact hP.2.2 i hi h0
theorem places_s (C : Cur μ s ρ) (hW : WF ρ) (hP : PMQ μ π) (hB : PBQ π) {b : Nat} (hb : b < ρ 37) : OkQ (fX6_places (nI b) μ) (fun μ2 => Cur μ2 s ρ ∧ PMQ μ2 (plc1 ρ b π) ∧ FrQ KPm μ μ2) := by
  have h8 := hW.1
  have h17 := hW.2.1
  have hw := hW.2.2.2.2 b hb
  have hor := orS_le (ρ := ρ) (h := π.1) (b := b) (ρ 4)
  have hor2 : orR ρ π.1 b ≤ 8 := by unfold orR; omega
  have hsl := setOf_lt (h := π.1) (b := b) h8
  have hst := stR_lt (h := π.1) (b := b) h8
  have hpl := pow_le h8
  have hgive : ∀ (m : Mem) (v : Nat), Cur m s ρ → PMQ m π → FrQ KPm μ m → setOfQ ρ π.1 b ≠ 0 → v = becOf ρ π.1 b → OkQ ((fX6_givesBeds (nI b) (nI (setOfQ ρ π.1 b)) (wI m 77 0 b (nI v))).bind fun q => (some q)) (fun μ2 => Cur μ2 s ρ ∧ PMQ μ2 (plc1 ρ b π) ∧ FrQ KPm μ μ2) := by
    intro m v c1 c2 c3 hne hv
    have F1 : FrQ KPm m (wI m 77 0 b (nI v)) := Fr_wI ⟨by omega, rfl⟩
    have hv3 : v ≤ 3 := by rw [hv]; exact becOf_le
    refine Ok_bind (givesBeds_s (Cur_wI c1 (by omega) (by omega)) hW (PM_bec c2 (b := b) (v := v)) ⟨hB.1, up_le hB.2.1 hv3, hB.2.2⟩ hb hsl) ?_
    rintro μ2 ⟨g1, g2, g3⟩
    refine ⟨_, rfl, g1, ?_, Fr_tr c3 (Fr_tr F1 g3)⟩
    unfold plc1
    rw [if_neg hne, ← hv]
    exact g2
  unfold fX6_places
  simp only [l_0, l_1, l_6]
  rw [oneRoom_s C hW hP.1 hB.1 hb, Option.bind_some]; simp (disch := omega) only [mI_z]
  by_cases q1 : orR ρ π.1 b = 0
  · have hs6 := hw.2.2.2.2.2.1
    rw [if_pos q1, of_s C (by omega) (by omega), Option.bind_some]; simp (disch := omega) only [nI_eq]
    have hset : setOfQ ρ π.1 b = if bkv ρ b 6 = 1 then 0 else stRQ ρ π.1 b := by unfold setOfQ; rw [if_pos q1]
    have hbec : becOf ρ π.1 b = if setOfQ ρ π.1 b = 0 then 3 else 2 := by unfold becOf; rw [if_pos q1]
    have hwalk : ∀ m : Mem, Cur m s ρ → PMQ m π → FrQ KPm μ m → setOfQ ρ π.1 b = 0 → OkQ (jX6_places_47 (nI b) (-nI 1) m) (fun μ2 => Cur μ2 s ρ ∧ PMQ μ2 (plc1 ρ b π) ∧ FrQ KPm μ μ2) := by
      intro m c1 c2 c3 h0
      unfold jX6_places_47 jX6_places_63
      simp only [l_1, l_3]
      rw [if_neg (by decide), gd_inb (by omega) (by omega), if_pos (by decide), nI_clamp (by omega)]
      refine ⟨_, rfl, Cur_wI c1 (by omega) (by omega), ?_, Fr_tr c3 (Fr_wI ⟨by omega, rfl⟩)⟩
      unfold plc1
      rw [if_pos h0]
      exact PM_bec c2
    by_cases q2 : bkv ρ b 6 = 1
    · rw [if_neg (fun q => q q2)]
      exact hwalk μ C hP (Fr_rfl μ) (by rw [hset, if_pos q2])
    · rw [if_pos q2]
      rw [if_neg q2] at hset
      refine Ok_bind (setFor_s C hW hP hB hb) ?_
      rintro ⟨m1, m2⟩ ⟨g1, g2, g3, g4⟩
      try dsimp only at g1 g2 g3 g4 ⊢
      by_cases q3 : stRQ ρ π.1 b = 0
      · rw [if_pos q3] at g1
        subst g1
        exact hwalk m2 g2 g3 g4 (by rw [hset, q3])
      · rw [if_neg q3] at g1
        subst g1
        unfold jX6_places_47 jX6_places_63
        simp only [l_1, l_2]
        rw [if_pos (nI_m1 (by omega)), gd_inb (by omega) (by omega), if_neg (nI_m1 (by omega)), nI_clamp (by omega), ← hset]
        exact hgive m2 2 g2 g3 g4 (by rw [hset]; exact q3) (by rw [hbec, if_neg (by rw [hset]; exact q3)])
  · rw [if_neg q1, gd_inb (by omega) (by omega), nI_clamp (by omega)]
    have hset : setOfQ ρ π.1 b = 2 ^ (orR ρ π.1 b - 1) := by unfold setOfQ; rw [if_neg q1]
    have hbec : becOf ρ π.1 b = 1 := by unfold becOf; rw [if_neg q1]
    have em : mI (orR ρ π.1 b) = nI (orR ρ π.1 b - 1) := by
      rw [← mI_s]; congr 1; omega
    have hpw : 2 ^ (orR ρ π.1 b - 1) ≤ 2 ^ 7 := Nat.pow_le_pow_right (by omega) (by omega)
    rw [em, nI_shl (by omega) (by omega), Nat.one_mul, ← hset]
    exact hgive μ 1 C hP (Fr_rfl μ) (by rw [hset]; exact Nat.ne_of_gt (pow_pos _)) hbec.symm
theorem isPlacedAt_s (C : Cur μ s ρ) {b n : Nat} (hb : b < 17) (hw : WFb ρ b) (hn : n < 2 ^ 20) : fX6_isPlacedAt (nI b) (nI n) μ = some (nI (b1 (isPl ρ b n))) := by
  have h8 := hw.2.2.2.2.2.2.2
  have h7 := hw.2.2.2.2.2.2.1
  have h0 := hw.1
  unfold fX6_isPlacedAt jX6_isPlacedAt_35 isPl
  simp only [l_0, l_1, l_7, l_8]
  rw [of_s C hb (by omega), Option.bind_some, of_s C hb (by omega), Option.bind_some, of_s C hb (by omega), Option.bind_some]; simp (disch := omega) only [nI_eq]
  by_cases q1 : bkv ρ b 8 = 1
  · rw [if_neg (fun q => q q1)]
    by_cases q2 : bkv ρ b 7 = 0
    · rw [if_neg (fun q => q q2)]
      by_cases q3 : bkv ρ b 0 = n
      · rw [if_neg (fun q => q q3), decide_eq_true ⟨q1, q2, q3⟩] <;> rfl
      · rw [if_pos q3, decide_eq_false (fun q => q3 q.2.2)] <;> rfl
    · rw [if_pos q2, decide_eq_false (fun q => q2 q.2.1)] <;> rfl
  · rw [if_pos q1, decide_eq_false (fun q => q1 q.1)] <;> rfl
theorem placesAll_s (C : Cur μ s ρ) (hW : WF ρ) : OkQ (fX6_placesAll μ) (fun μ2 => Cur μ2 s ρ ∧ PMQ μ2 (plc ρ) ∧ FrQ KPm μ μ2) := by
  have h17 := hW.2.1
  have hl1 : OkQ (loop stX6_placesAll_2 5000 (nI 0, μ)) (fun μ2 => (∀ i, i < 2400 → rI μ2 76 0 i = mI 0) ∧ FrQ (fun k j _ => k = 76 ∧ j = 0) μ μ2) := by
    refine loop_ok 2400 (fun k a => a.1 = nI k ∧ (∀ i, i < k → rI a.2 76 0 i = mI 0) ∧ FrQ (fun k j _ => k = 76 ∧ j = 0) μ a.2) (by omega) ⟨rfl, fun i hi => absurd hi (Nat.not_lt_zero _), Fr_rfl μ⟩ ?_
    rintro k ⟨a1, a2⟩ hk ⟨e1, e2, F⟩
    try dsimp only at e1 e2 F
    subst e1
    unfold stX6_placesAll_2
    simp only [l_1, l_2400]
    by_cases hkn : k = 2400
    · subst hkn
      rw [if_pos (nI_le (Nat.le_refl _) (by omega))]
      exact ⟨_, rfl, e2, F⟩
    · rw [if_neg (nI_ge (by omega) (by omega)), gd_inb (by omega) (by omega), nI_clamp (by omega), nI_add]
      refine ⟨_, rfl, by omega, rfl, fun i hi => ?_, Fr_tr F (Fr_wI ⟨rfl, rfl⟩)⟩
      show rI (wI a2 76 0 k (-nI 1)) 76 0 i = _
      rw [rI_wI]
      by_cases h : i = k
      · subst h; rw [if_pos ⟨rfl, rfl, rfl⟩]; exact mI_0.symm
      · rw [if_neg (fun q => h q.2.2)]; exact e2 i (by omega)
  have hl2 : ∀ μ1, OkQ (loop stX6_placesAll_26 5000 (nI 0, μ1)) (fun μ2 => (∀ i, i < 17 → rI μ2 77 0 i = nI 0) ∧ FrQ (fun k j _ => k = 77 ∧ j = 0) μ1 μ2) := by
    intro μ1
    refine loop_ok 17 (fun k a => a.1 = nI k ∧ (∀ i, i < k → rI a.2 77 0 i = nI 0) ∧ FrQ (fun k j _ => k = 77 ∧ j = 0) μ1 a.2) (by omega) ⟨rfl, fun i hi => absurd hi (Nat.not_lt_zero _), Fr_rfl μ1⟩ ?_
    rintro k ⟨a1, a2⟩ hk ⟨e1, e2, F⟩
    try dsimp only at e1 e2 F
    subst e1
    unfold stX6_placesAll_26
    simp only [l_0, l_1, l_17]
    by_cases hkn : k = 17
    · subst hkn
      rw [if_pos (nI_le (Nat.le_refl _) (by omega))]
      exact ⟨_, rfl, e2, F⟩
    · rw [if_neg (nI_ge (by omega) (by omega)), gd_inb (by omega) (by omega), nI_clamp (by omega), nI_add]
      refine ⟨_, rfl, by omega, rfl, fun i hi => ?_, Fr_tr F (Fr_wI ⟨rfl, rfl⟩)⟩
      show rI (wI a2 77 0 k (nI 0)) 77 0 i = _
      rw [rI_wI]
      by_cases h : i = k
      · subst h; rw [if_pos ⟨rfl, rfl, rfl⟩]
      · rw [if_neg (fun q => h q.2.2)]; exact e2 i (by omega)
  have hin : ∀ (n : Nat) (m : Mem) (π : PnQ), n < 30 → Cur m s ρ → PMQ m π → PBQ π → FrQ KPm μ m → OkQ (loop (stX6_placesAll_58 (nI n, m)) 5000 (nI 0, m)) (fun μ2 => Cur μ2 s ρ ∧ PMQ μ2 (plB ρ n π (ρ 37)) ∧ FrQ KPm μ μ2) := by
    intro n m π hn c1 c2 c3 c4
    refine loop_ok (ρ 37) (fun k a => a.1 = nI k ∧ Cur a.2 s ρ ∧ PMQ a.2 (plB ρ n π k) ∧ FrQ KPm μ a.2) (by omega) ⟨rfl, c1, c2, c4⟩ ?_
    rintro k ⟨a1, a2⟩ hk ⟨e1, C2, P2, F2⟩
    try dsimp only at e1 C2 P2 F2
    subst e1
    have B2 := PB_plB (n := n) hW.1 c3 k (by omega)
    unfold stX6_placesAll_58 jX6_placesAll_82
    try dsimp only
    simp only [l_0, l_1, l_37]
    rw [get_s C2 (by omega), Option.bind_some]
    by_cases hkn : k = ρ 37
    · subst hkn
      rw [if_pos (nI_le (Nat.le_refl _) (by omega))]
      exact ⟨_, rfl, C2, P2, F2⟩
    · have hw := hW.2.2.2.2 k (by omega)
      have eS : plB ρ n π (k + 1) = if isPl ρ k n = true then plc1 ρ k (plB ρ n π k) else plB ρ n π k := rfl
      rw [if_neg (nI_ge (by omega) (by omega)), isPlacedAt_s C2 (by omega) hw (by omega), Option.bind_some]; simp (disch := omega) only [b1_z]; rw [nI_add]
      by_cases q : isPl ρ k n = true
      · rw [if_neg (by rw [q]; decide)]
        refine Ok_bind (places_s C2 hW P2 B2 (by omega)) ?_
        rintro μ2 ⟨g1, g2, g3⟩
        exact ⟨_, rfl, by omega, rfl, g1, by rw [eS, if_pos q]; exact g2, Fr_tr F2 g3⟩
      · rw [if_pos (by simpa using q)]
        exact ⟨_, rfl, by omega, rfl, C2, by rw [eS, if_neg q]; exact P2, F2⟩
  have hl3 : ∀ m : Mem, Cur m s ρ → PMQ m (plN ρ 0) → FrQ KPm μ m → OkQ (loop stX6_placesAll_50 5000 (nI 0, m)) (fun μ2 => Cur μ2 s ρ ∧ PMQ μ2 (plc ρ) ∧ FrQ KPm μ μ2) := by
    intro m c1 c2 c4
    refine loop_ok 30 (fun k a => a.1 = nI k ∧ Cur a.2 s ρ ∧ PMQ a.2 (plN ρ k) ∧ FrQ KPm μ a.2) (by omega) ⟨rfl, c1, c2, c4⟩ ?_
    rintro k ⟨a1, a2⟩ hk ⟨e1, C2, P2, F2⟩
    try dsimp only at e1 C2 P2 F2
    subst e1
    unfold stX6_placesAll_50
    try dsimp only
    simp only [l_0, l_1, l_30]
    by_cases hkn : k = 30
    · subst hkn
      rw [if_pos (nI_le (Nat.le_refl _) (by omega))]
      exact ⟨_, rfl, C2, P2, F2⟩
    · rw [if_neg (nI_ge (by omega) (by omega))]
      refine Ok_bind (hin k a2 (plN ρ k) (by omega) C2 P2 (PB_plN hW k) F2) ?_
      rintro μ2 ⟨g1, g2, g3⟩
      rw [nI_add]
      exact ⟨_, rfl, by omega, rfl, g1, g2, g3⟩
  unfold fX6_placesAll
  simp only [l_0]
  refine Ok_bind hl1 ?_
  rintro m1 ⟨x1, x2⟩
  refine Ok_bind (hl2 m1) ?_
  rintro m2 ⟨y1, y2⟩
  have F1 : FrQ KPm μ m2 := Fr_tr (Fr_mono x2 (fun k j _ q => ⟨by omega, q.2⟩)) (Fr_mono y2 (fun k j _ q => ⟨by omega, q.2⟩))
  refine Ok_bind (hl3 m2 (Cur_fr C F1 (fun q => by have := q.1; omega) (fun r _ _ q => by have := q.1; omega)) ⟨fun i hi => ?_, y1, fun i hi h0 => absurd rfl h0⟩ F1) ?_
  · rw [y2.1 76 0 i (by omega)]; exact x1 i hi
  intro m3 h3
  exact ⟨_, rfl, h3⟩
end
