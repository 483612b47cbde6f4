/-! p47, layer 2: the chances of a night, the law's side -/
section
variable {xs : Nat → Int32} {L : Nat} {σ : Mem} {ρ : RwQ} {ac : Nat → Int32} {n : Nat}
theorem q_chance (h1 : I1 σ ρ) (h3 : I3 ρ) (hn : n < 30) {g : Nat} (hg : g < 193) : ∃ σ2, fX5_chance (nI n) (nI g) σ = some (.inl (od ρ n (ρ 37) g), σ2) ∧ I1 σ2 ρ := by
  obtain ⟨σ2, a0, a1, a2⟩ := fillOdds_h h1 h3 hn
  refine ⟨σ2, ?_, I1_st h1 (Dn_ST (j := rP σ 1) a2) rfl⟩
  unfold fX5_chance
  rw [chkN_Y hn, Option.bind_some, Sum.elim_inl, a0, Option.bind_some, if_neg (show ¬ nI g < (0 : Int32) from nlt0 (by omega)), if_neg (show ¬ (193 : Int32) ≤ nI g from fun z => by have := (nI_leI (a := 193) (by omega) (by omega)).mp z; omega), gd_inb (by omega) (by omega), nI_clamp (by omega), a1 g hg]
theorem q_chanceN (h1 : I1 σ ρ) (h3 : I3 ρ) (hn : n < 30) {p : Int32} (hp : p < 0 ∨ (193 : Int32) ≤ p) : ∃ σ2, fX5_chance (nI n) p σ = some (.inl FP.dconst0, σ2) ∧ I1 σ2 ρ := by
  obtain ⟨σ2, a0, a1, a2⟩ := fillOdds_h h1 h3 hn
  refine ⟨σ2, ?_, I1_st h1 (Dn_ST (j := rP σ 1) a2) rfl⟩
  unfold fX5_chance jX5_chance_31
  rw [chkN_Y hn, Option.bind_some, Sum.elim_inl, a0, Option.bind_some]
  by_cases z : p < 0
  · rw [if_pos z]
  · rw [if_neg z, if_pos (hp.resolve_left z)]
theorem q_risk (h1 : I1 σ ρ) (h3 : I3 ρ) (hn : n < 30) : ∃ σ2, fX5_risk (nI n) σ = some (.inl (sm (od ρ n (ρ 37)) (allB ρ + 1) (193 - (allB ρ + 1))), σ2) ∧ I1 σ2 ρ := by
  have hb := allB_le h3.1
  have hlt := I1_lt h1
  obtain ⟨σ2, a0, a1, a2⟩ := fillOdds_h h1 h3 hn
  refine ⟨σ2, ?_, I1_st h1 (Dn_ST (j := rP σ 1) a2) rfl⟩
  unfold fX5_risk
  simp only [l_1]
  rw [chkN_Y hn, Option.bind_some, Sum.elim_inl, a0, Option.bind_some, gd_pos (by rw [Dn_P a2]; exact hlt), Dn_P a2, Dn_I a2, h1.2.1.1.2.1, nI_add, riskC h3 a1 (by omega), Option.bind_some]
theorem q_walks (h1 : I1 σ ρ) (h3 : I3 ρ) (hn : n < 30) : ∃ σ2, fX5_expectedWalks (nI n) σ = some (.inl (sm (wkP ρ n) (allB ρ + 1) (193 - (allB ρ + 1))), σ2) ∧ I1 σ2 ρ := by
  have hb := allB_le h3.1
  have hlt := I1_lt h1
  obtain ⟨σ2, a0, a1, a2⟩ := fillOdds_h h1 h3 hn
  have h1b := I1_st h1 (Dn_ST (j := rP σ 1) a2) rfl
  refine ⟨σ2, ?_, h1b⟩
  unfold fX5_expectedWalks
  simp only [l_1]
  have h21 : rI σ2 21 (rP σ2 0) 0 = nI (allB ρ) := h1b.2.1.1.2.1
  rw [chkN_Y hn, Option.bind_some, Sum.elim_inl, a0, Option.bind_some, gd_pos (I1_lt h1b), h21, nI_add, walksC h3 a1 h21 (by omega) (by omega), Option.bind_some]
theorem sm_more {M : Nat} {f : Nat → UInt64} {a e : Nat} (hf : ∀ i, FC M (f i)) (hM : M ≤ 1500) (hz : ∀ i, e ≤ i → f i = 0) (ha : a ≤ e) (he : e ≤ 193) : ∀ d, d + e ≤ 205 → sm f a (e - a + d) = sm f a (e - a) := by
  intro d
  induction d with
  | zero => intro _; rfl
  | succ d ih =>
    intro hd
    show FP.dadd (sm f a (e - a + d)) (f (a + (e - a + d))) = _
    rw [hz _ (by omega), ih (by omega)]
    exact dadd0 (sm_FC hf hM (e - a) (by omega)).2
theorem ppN_l (c : Nat) : FP.ddiv (FP.i2d (nI c)) (4636737291354636288 : UInt64) = ppN c := rfl
theorem then_l (hL : L ≤ 260) (Q : RQ xs L ρ) (hW : WF ρ) {k : Nat} (hk : k < ρ 37) {f p : Nat → UInt64} {K : Nat} (hf : ∀ g, g < 120 → p g = f g) (hF : ∀ g, FC (1021 + K) (f g)) (hK : K ≤ 900) : OkQ (loop (stL_areChances_66 (nI (bkv ρ k 5)) (nI k, p) xs L) 5000 ((0 : Int32), (fun _ => 0))) (fun q => ∀ g, g < 120 → q g = odU f (prs ρ k) (ppN (bkv ρ k 5)) g) := by
  have hb := RQ_bk Q hk
  obtain ⟨hp, hq⟩ := ppN_FC (c := bkv ρ k 5) (by omega)
  refine loop_ok 120 (fun g (a : Int32 × (Nat → UInt64)) => a.1 = nI g ∧ ∀ i, i < g → a.2 i = odU f (prs ρ k) (ppN (bkv ρ k 5)) i) (by omega) ⟨rfl, fun i hi => absurd hi (by omega)⟩ (fun g a hg hI => ?_)
  obtain ⟨ai, aq⟩ := a
  obtain ⟨i1, i2⟩ := hI
  try dsimp only at i1 i2
  subst i1
  unfold stL_areChances_66
  try dsimp only
  by_cases hlt : g < 120
  · obtain ⟨g1, g2, g3⟩ := odU_FC (n := prs ρ k) hF hp hq hK g
    have g2' : FC (K + 1024) (FP.dmul (p g) (FP.dsub FP.dconst1 (ppN (bkv ρ k 5)))) := by rw [hf g hlt]; exact g2
    rw [if_neg (show ¬ (120 : Int32) ≤ nI g from fun z => by have := (nI_leI (a := 120) (by omega) (by omega)).mp z; omega), gd_inb hlt (by omega), nI_clamp (by omega), ppN_l, gd_pos (FC_n64 hq), gd_pos (FC_n64 g2'), people_h hL Q hk, Option.bind_some, Option.bind_some]
    have fin : OkQ (jL_areChances_114 (nI (bkv ρ k 5)) (nI k, p) (nI g, aq) (if g < prs ρ k then 0 else f (g - prs ρ k))) (fun r => Sum.elim (fun a2 => g < 120 ∧ a2.1 = nI (g + 1) ∧ ∀ i, i < g + 1 → a2.2 i = odU f (prs ρ k) (ppN (bkv ρ k 5)) i) (fun q => ∀ g, g < 120 → q g = odU f (prs ρ k) (ppN (bkv ρ k 5)) g) r) := by
      have g1' : FC (1021 + (K + 5)) (FP.dadd (FP.dmul (p g) (FP.dsub FP.dconst1 (ppN (bkv ρ k 5)))) (FP.dmul (if g < prs ρ k then 0 else f (g - prs ρ k)) (ppN (bkv ρ k 5)))) := by rw [hf g hlt]; exact g1
      unfold jL_areChances_114
      try dsimp only
      rw [nI_clamp (by omega), ppN_l, gd_pos (FC_n64 g3), gd_pos (FC_n64 g1')]
      refine Ok_some ⟨hlt, nI_add _ _, fun i hi => ?_⟩
      show vf_upd aq g _ i = _
      unfold vf_upd
      by_cases z : i = g
      · rw [if_pos z, z, hf g hlt] <;> rfl
      · rw [if_neg z]; exact i2 i (by omega)
    by_cases hpg : g < prs ρ k
    · rw [if_neg (fun z => by have := (nI_leI (by omega) (by omega)).mp z; omega)]
      rw [if_pos hpg] at fin
      exact fin
    · rw [if_pos (nI_le (by omega) (by omega)), pk_sub (by omega), gd_inb (by omega) (by omega), nI_clamp (by omega), hf _ (by omega)]
      rw [if_neg hpg] at fin
      exact fin
  · have e : g = 120 := by omega
    subst e
    rw [if_pos (by decide)]
    exact Ok_some i2
theorem odds_l (hL : L ≤ 260) (h3 : I3 (rwF xs L)) (hA : acK xs L (qB xs L) ac) (hn : n < 30) : OkQ (loop (stL_areChances_14 xs L ac (nI n)) 9 ((0 : Int32), vf_upd (fun _ => 0) (0 : Int32).toNatClampNeg FP.dconst1)) (fun p => ∀ g, g < 120 → p g = od (rwF xs L) n (rwF xs L 37) g) := by
  have Q : RQ xs L (rwF xs L) := rwB_RQ
  have hB := qB_rng (xs := xs) (L := L)
  refine loop_Ok (fun k (a : Int32 × (Nat → UInt64)) => a.1 = nI k ∧ ∀ g, g < 120 → a.2 g = od (rwF xs L) n k g) (qB xs L) (fun k a hk hI => ?_) 9 0 ((0 : Int32), vf_upd (fun _ => 0) (0 : Int32).toNatClampNeg FP.dconst1) (by omega) (by omega) ⟨rfl, fun g hg => ?_⟩
  · obtain ⟨ai, ap⟩ := a
    obtain ⟨i1, i2⟩ := hI
    try dsimp only at i1 i2
    subst i1
    unfold stL_areChances_14
    rw [bookingsOf_h hL, Option.bind_some]
    try dsimp only
    by_cases hlt : k < qB xs L
    · have hk37 : k < rwF xs L 37 := by rw [F_37]; exact hlt
      have hle := stK_le hlt
      have hb := RQ_bk Q hk37
      have hst : ac k = nI (stK xs L k) := by rw [hA k]; exact if_pos hlt
      have h8 : bkv (rwF xs L) k 8 = stK xs L k := rfl
      have ek : nI k + (1 : Int32) = nI (k + 1) := nI_add _ _
      have eo : od (rwF xs L) n (k + 1) = if bkv (rwF xs L) k 8 = 1 ∧ staysQ (rwF xs L) k n = true then odU (od (rwF xs L) n k) (prs (rwF xs L) k) (ppN (bkv (rwF xs L) k 5)) else od (rwF xs L) n k := rfl
      rw [if_neg (nI_ge hlt (by omega)), gd_inb (by omega) (by omega), nI_clamp (by omega), hst, ek, isIn_h hL Q hk37 (by omega), Option.bind_some]
      have hc : stK xs L k = 0 ∨ stK xs L k = 1 := by omega
      rcases hc with hc | hc
      · rw [hc, if_pos (show nI 0 = (0 : Int32) from rfl)]
        rw [if_neg (fun z => by omega)] at eo
        exact Ok_some ⟨hlt, rfl, fun g hg => by rw [eo]; exact i2 g hg⟩
      · rw [hc, if_neg (by decide)]
        cases hs : staysQ (rwF xs L) k n
        · rw [if_neg (fun z => z (b1_0.mpr rfl))]
          rw [if_neg (fun z => by rw [hs] at z; exact Bool.noConfusion z.2)] at eo
          exact Ok_some ⟨hlt, rfl, fun g hg => by rw [eo]; exact i2 g hg⟩
        · rw [if_pos (fun z => Bool.noConfusion (b1_0.mp z)), show fL_booking xs L (nI k) (5 : Int32) = some (nI (bkv (rwF xs L) k 5)) from bookR_h hL Q hk37 (i := 5) (by omega), Option.bind_some]
          have hp := (ppN_FC (c := bkv (rwF xs L) k 5) (by omega)).1
          rw [if_pos ⟨by omega, hs⟩] at eo
          rw [ppN_l, gd_pos (FC_n64 hp)]
          refine Ok_bind (then_l hL Q h3.1 hk37 (K := 1 + 5 * k) i2 (od_FC h3.1 n k (by omega)) (by omega)) (fun q hq => ?_)
          exact Ok_some ⟨hlt, rfl, fun g hg => by rw [eo]; exact hq g hg⟩
    · have e : k = qB xs L := by omega
      rw [if_pos (nI_le (by omega) (by omega))]
      refine Ok_some (fun g hg => ?_)
      rw [F_37, ← e]
      exact i2 g hg
  · show vf_upd (fun _ => 0) 0 FP.dconst1 g = if g = 0 then FP.dconst1 else 0
    rfl
theorem cmp_e {K : Nat} {x : UInt64} (h : FC K x) : Op.cmpValue (FP.dcmp x x) .l = 0 := by
  have e : FP.dcmp x x = some .eq := dcmp_self' h
  rw [e]
  rfl
theorem areCh_l (hL : L ≤ 260) (h1 : I1 σ (rwF xs L)) (h3 : I3 (rwF xs L)) (hA : acK xs L (qB xs L) ac) (hn : n < 30) : ∃ σ2, fL_areChances xs L (nI n) σ ac = some ((1 : Int32), σ2) ∧ I1 σ2 (rwF xs L) := by
  have Q : RQ xs L (rwF xs L) := rwB_RQ
  have hB := qB_rng (xs := xs) (L := L)
  have hl := RQ_le Q
  have h37 := F_37 (xs := xs) (L := L)
  have hall : allB (rwF xs L) ≤ 20 := by
    have := sumN_le (f := fun r => rmv (rwF xs L) r 1) (c := 5) (n := rwF xs L 4) (fun r hr => (RQ_rm Q hr).2.1.2)
    unfold allB
    omega
  obtain ⟨p, e1, hp⟩ := odds_l hL h3 hA hn
  have hz : ∀ i, 120 ≤ i → od (rwF xs L) n (rwF xs L 37) i = 0 := fun i hi => od_0 h3.1 n _ (Nat.le_refl _) i (by omega)
  have hz2 : ∀ i, 120 ≤ i → wkP (rwF xs L) n i = 0 := fun i hi => by
    unfold wkP
    split
    · unfold wkO
      rw [hz i hi]
      exact (dmul0 (K := 1030) (chkF_FC (i2d_ok (i - allB (rwF xs L)) (by omega)))).1
    · rfl
  have s1 : sm (od (rwF xs L) n (rwF xs L 37)) (allB (rwF xs L) + 1) (193 - (allB (rwF xs L) + 1)) = sm (od (rwF xs L) n (rwF xs L 37)) (allB (rwF xs L) + 1) (120 - (allB (rwF xs L) + 1)) := by
    have := sm_more (a := allB (rwF xs L) + 1) (e := 120) (odP_FC h3 n) (by omega) hz (by omega) (by omega) 73 (by omega)
    rw [show 120 - (allB (rwF xs L) + 1) + 73 = 193 - (allB (rwF xs L) + 1) by omega] at this
    exact this
  have s2 : sm (wkP (rwF xs L) n) (allB (rwF xs L) + 1) (193 - (allB (rwF xs L) + 1)) = sm (wkP (rwF xs L) n) (allB (rwF xs L) + 1) (120 - (allB (rwF xs L) + 1)) := by
    have := sm_more (a := allB (rwF xs L) + 1) (e := 120) (wkP_FC h3 n) (by omega) hz2 (by omega) (by omega) 73 (by omega)
    rw [show 120 - (allB (rwF xs L) + 1) + 73 = 193 - (allB (rwF xs L) + 1) by omega] at this
    exact this
  have e2 : loop (stL_areChances_149 p xs L) 5000 (FP.dconst0, FP.dconst0, nI (allB (rwF xs L)) + (1 : Int32)) = some (sm (od (rwF xs L) n (rwF xs L 37)) (allB (rwF xs L) + 1) (120 - (allB (rwF xs L) + 1)), sm (wkP (rwF xs L) n) (allB (rwF xs L) + 1) (120 - (allB (rwF xs L) + 1))) := by
    refine loop_st (120 - (allB (rwF xs L) + 1)) (fun k => (sm (od (rwF xs L) n (rwF xs L 37)) (allB (rwF xs L) + 1) k, sm (wkP (rwF xs L) n) (allB (rwF xs L) + 1) k, nI (allB (rwF xs L) + 1 + k))) (by omega) (by rw [show nI (allB (rwF xs L)) + (1 : Int32) = nI (allB (rwF xs L) + 1) from nI_add _ _] <;> rfl) (fun k hk => ?_) ?_
    · have hF : FC _ (FP.dadd (sm (od (rwF xs L) n (rwF xs L 37)) (allB (rwF xs L) + 1) k) (od (rwF xs L) n (rwF xs L 37) (allB (rwF xs L) + 1 + k))) := sm_FC (a := allB (rwF xs L) + 1) (odP_FC h3 n) (by omega) (k + 1) (by omega)
      have hF3 : FC _ (FP.dadd (sm (wkP (rwF xs L) n) (allB (rwF xs L) + 1) k) (wkP (rwF xs L) n (allB (rwF xs L) + 1 + k))) := sm_FC (a := allB (rwF xs L) + 1) (wkP_FC h3 n) (by omega) (k + 1) (by omega)
      have ew : FP.dmul (FP.i2d (nI (allB (rwF xs L) + 1 + k - allB (rwF xs L)))) (od (rwF xs L) n (rwF xs L 37) (allB (rwF xs L) + 1 + k)) = wkP (rwF xs L) n (allB (rwF xs L) + 1 + k) := (if_pos (show allB (rwF xs L) + 1 + k < 205 by omega)).symm
      unfold stL_areChances_149
      try dsimp only
      rw [if_neg (show ¬ (120 : Int32) ≤ nI (allB (rwF xs L) + 1 + k) from fun z => by have := (nI_leI (a := 120) (by omega) (by omega)).mp z; omega), gd_inb (by omega) (by omega), nI_clamp (by omega), hp _ (by omega), gd_pos (FC_n64 hF), beds_h hL Q, Option.bind_some, pk_sub (by omega), ew, gd_pos (FC_n64 (wkP_FC h3 n _)), gd_pos (FC_n64 hF3), show nI (allB (rwF xs L) + 1 + k) + (1 : Int32) = nI (allB (rwF xs L) + 1 + (k + 1)) from nI_add _ _]
      rfl
    · unfold stL_areChances_149
      try dsimp only
      rw [if_pos (show (120 : Int32) ≤ nI (allB (rwF xs L) + 1 + (120 - (allB (rwF xs L) + 1))) from (nI_leI (a := 120) (by omega) (by omega)).mpr (by omega))]
  have e3 : ∃ σ2, loop (stL_areChances_194 (nI n) p) 42 ((0 : Int32), σ) = some (.inl σ2) ∧ I1 σ2 (rwF xs L) := by
    obtain ⟨a2, ⟨i1, i2⟩, e⟩ := loop_go (step := stL_areChances_194 (nI n) p) (fun g (a : Int32 × Mem) => a.1 = nI g ∧ I1 a.2 (rwF xs L)) 40 (fun g a hg ⟨j1, j2⟩ => by
      obtain ⟨ai, as⟩ := a
      try dsimp only at j1 j2
      subst j1
      obtain ⟨t2, m1, m2⟩ := q_chance j2 h3 hn (g := g) (by omega)
      refine ⟨(nI (g + 1), t2), ?_, rfl, m2⟩
      unfold stL_areChances_194
      try dsimp only
      rw [if_neg (show ¬ (40 : Int32) ≤ nI g from fun z => by have := (nI_leI (a := 40) (by omega) (by omega)).mp z; omega), m1, Option.bind_some]
      try dsimp only
      rw [Sum.elim_inl, gd_inb (by omega) (by omega), nI_clamp (by omega), hp g (by omega), if_pos (cmp_e (odP_FC h3 n g)), show nI g + (1 : Int32) = nI (g + 1) from nI_add _ _]) 2 ((0 : Int32), σ) ⟨rfl, h1⟩
    obtain ⟨ai, as⟩ := a2
    try dsimp only at i1 i2
    subst i1
    refine ⟨as, ?_, i2⟩
    rw [show (42 : Nat) = 40 + 2 from rfl, e]
    refine loop_end ?_ 1
    unfold stL_areChances_194
    try dsimp only
    rw [if_pos (by decide)]
  obtain ⟨σ2, e3, h2⟩ := e3
  obtain ⟨σ3, r1, r2⟩ := q_risk h2 h3 hn
  obtain ⟨σ4, w1, w2⟩ := q_walks r2 h3 hn
  obtain ⟨σ5, c1, c2⟩ := q_chanceN w2 h3 hn (p := (-1 : Int32)) (Or.inl (by decide))
  obtain ⟨σ6, d1, d2⟩ := q_chanceN c2 h3 hn (p := (9999 : Int32)) (Or.inr (by decide))
  have f0 : Op.cmpValue (FP.dcmp FP.dconst0 FP.dconst0) .l = 0 := cmp_e (K := 0) (x := FP.dconst0) FC_0
  have fr := cmp_e (sm_FC (a := allB (rwF xs L) + 1) (odP_FC h3 n) (by omega) (120 - (allB (rwF xs L) + 1)) (by omega))
  have fw := cmp_e (sm_FC (a := allB (rwF xs L) + 1) (wkP_FC h3 n) (by omega) (120 - (allB (rwF xs L) + 1)) (by omega))
  refine ⟨σ6, ?_, d2⟩
  unfold fL_areChances
  rw [e1, Option.bind_some, beds_h hL Q, Option.bind_some, e2, Option.bind_some, e3, Option.bind_some, Sum.elim_inl, r1, Option.bind_some]
  try dsimp only
  rw [Sum.elim_inl, s1, if_neg (fun z => z fr), w1, Option.bind_some]
  try dsimp only
  rw [Sum.elim_inl, s2, if_neg (fun z => z fw), c1, Option.bind_some]
  try dsimp only
  rw [Sum.elim_inl, if_neg (fun z => z f0), d1, Option.bind_some]
  try dsimp only
  rw [Sum.elim_inl, if_neg (fun z => z f0)]
end
