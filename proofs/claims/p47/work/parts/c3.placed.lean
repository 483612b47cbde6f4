/-! p47, layer 2: a group placed by the law and looked at -/
section
variable {xs : Nat → Int32} {L : Nat} {σ : Mem} {ρ h : RwQ} {hd : Nat → Nat → Int32} {π : PnQ} {k : Nat}
theorem nights_l (hL : L ≤ 260) (Q : RQ xs L ρ) (H : HD hd h) (hk : k < ρ 37) {x : Nat} (hx : x < 40) : OkQ (loop (stL_placed_207 xs L (nI k) (nI x)) 5000 ((0 : Int32), hd)) (fun hd2 => HD hd2 (tkH ρ h k x)) := by
  have hl := RQ_le Q
  refine loop_ok 30 (fun n (a : Int32 × (Nat → Nat → Int32)) => a.1 = nI n ∧ ∀ y m, y < 40 → m < 30 → a.2 y m = nI (if y = x ∧ m < n ∧ staysQ ρ k m = true then k + 1 else h (30 * y + m))) (by omega) ⟨rfl, fun y m hy hm => by rw [if_neg (by omega)]; exact H y m hy hm⟩ (fun n a hn hI => ?_)
  obtain ⟨ai, ah⟩ := a
  obtain ⟨i1, i2⟩ := hI
  try dsimp only at i1 i2
  subst i1
  have en : nI n + (1 : Int32) = nI (n + 1) := nI_add _ _
  unfold stL_placed_207
  try dsimp only
  by_cases hlt : n < 30
  · rw [if_neg (show ¬ (30 : Int32) ≤ nI n from fun z => by have := (nI_leI (a := 30) (by omega) (by omega)).mp z; omega), isIn_h hL Q hk (by omega), Option.bind_some, en]
    cases hs : staysQ ρ k n
    · rw [if_pos (b1_0.mpr rfl)]
      refine Ok_some ⟨hlt, rfl, fun y m hy hm => ?_⟩
      show ah y m = _
      rw [i2 y m hy hm]
      congr 1
      by_cases z : y = x ∧ m < n ∧ staysQ ρ k m = true
      · rw [if_pos z, if_pos ⟨z.1, by omega, z.2.2⟩]
      · rw [if_neg z, if_neg (fun w => z ⟨w.1, by
          have : m ≠ n := fun u => by rw [u, hs] at w; exact Bool.noConfusion w.2.2
          omega, w.2.2⟩)]
    · rw [if_neg (fun z => Bool.noConfusion (b1_0.mp z)), gd_inb hx (by omega), gd_inb hlt (by omega), nI_clamp (by omega), nI_clamp (by omega), show nI k + (1 : Int32) = nI (k + 1) from nI_add _ _]
      refine Ok_some ⟨hlt, rfl, fun y m hy hm => ?_⟩
      show hdUp ah x (upd (ah x) n (nI (k + 1))) y m = _
      unfold hdUp
      by_cases z : y = x
      · rw [if_pos z]
        by_cases u : m = n
        · rw [u, pk_us, if_pos ⟨z, by omega, hs⟩]
        · rw [pk_un u, i2 x m hx hm, z]
          congr 1
          by_cases w : m < n ∧ staysQ ρ k m = true
          · rw [if_pos ⟨rfl, w⟩, if_pos ⟨rfl, by omega, w.2⟩]
          · rw [if_neg (fun v => w v.2), if_neg (fun v => w ⟨by omega, v.2.2⟩)]
      · rw [if_neg z, i2 y m hy hm, if_neg (fun v => z v.1), if_neg (fun v => z v.1)]
  · have e : n = 30 := by omega
    subst e
    rw [if_pos (by decide)]
    refine Ok_some (fun y m hy hm => ?_)
    rw [i2 y m hy hm]
    unfold tkH
    congr 1
    rw [show (30 * y + m) / 30 = y by omega, show (30 * y + m) % 30 = m by omega]
    by_cases w : y = x ∧ staysQ ρ k m = true
    · rw [if_pos w, if_pos ⟨w.1, hm, w.2⟩]
    · rw [if_neg w, if_neg (fun v => w ⟨v.1, v.2.2⟩)]
theorem totT_s (Q : RQ xs L ρ) (hW : WF ρ) (hk : k < ρ 37) {S n : Nat} {sl : RwQ} (hn : n ≤ 12) : sumNQ (totT ρ k S h sl) n ≤ 72000 := by
  have := sumN_le (f := totT ρ k S h sl) (c := 6000) (n := n) (fun p _ => totT_le hW hk p)
  omega
theorem person_l (hL : L ≤ 260) (Q : RQ xs L ρ) (hW : WF ρ) (h1 : I1 σ ρ) (h3 : I3 ρ) (hk : k < ρ 37) (hB : PBQ π) (hne : setOfQ ρ π.1 k ≠ 0) (SB : SmB ρ k (plc1 ρ k π) (plc ρ)) {p : Nat} (hp : p < prs ρ k) (H : HD hd (gvS ρ k (setOfQ ρ π.1 k) π.1 π.2.2 p).1) : ∃ hd2, stL_placed_119 xs L (nI k) (nI (setOfQ ρ π.1 k)) σ (nI (bkv ρ k 1)) (nI (sumNQ (totT ρ k (setOfQ ρ π.1 k) π.1 π.2.2) p), nI p, hd) = some (.inl (nI (sumNQ (totT ρ k (setOfQ ρ π.1 k) π.1 π.2.2) (p + 1)), nI (p + 1), hd2)) ∧ HD hd2 (gvS ρ k (setOfQ ρ π.1 k) π.1 π.2.2 (p + 1)).1 := by
  have hl := RQ_le Q
  have hb := RQ_bk Q hk
  obtain ⟨-, s2, -⟩ := setOf_ok (sl := π.2.2) hW hk hne
  have hS := setOf_lt (ρ := ρ) (h := π.1) (b := k) (by omega)
  have hx := s2 p hp
  have hgh := (PB_gvS (ρ := ρ) (b := k) (S := setOfQ ρ π.1 k) (by omega) (by omega) hB.1 hB.2.2 p).1
  obtain ⟨g1, -⟩ := gv_d (ρ := ρ) (b := k) (S := setOfQ ρ π.1 k) (h := π.1) (sl := π.2.2) (prs ρ k) s2
  obtain ⟨c1, c2, c3, c4⟩ := plc1_eq hW hk hne
  have e1 : plc1 ρ k π = ((gvS ρ k (setOfQ ρ π.1 k) π.1 π.2.2 (prs ρ k)).1, upQ π.2.1 k (becOf ρ π.1 k), (gvS ρ k (setOfQ ρ π.1 k) π.1 π.2.2 (prs ρ k)).2) := if_neg hne
  have hsl : (plc ρ).2.2 (12 * k + p) = bdN ρ k (setOfQ ρ π.1 k) π.1 π.2.2 p + 1 := by
    rw [SB.2.2.2.2 p (by omega), e1]
    exact g1 p hp
  have hhas : hasB (plc ρ) k = true := by
    refine decide_eq_true ?_
    rw [SB.1]
    exact c1
  obtain ⟨x, x1, x2, x3, x4⟩ := q_bedP h1 h3 hk hp hhas
  have hxe : x = bdN ρ k (setOfQ ρ π.1 k) π.1 π.2.2 p := by omega
  subst hxe
  obtain ⟨x, hxd⟩ : ∃ x, x = bdN ρ k (setOfQ ρ π.1 k) π.1 π.2.2 p := ⟨_, rfl⟩
  rw [← hxd] at hx x2 x3 x4
  have ep : nI p + (1 : Int32) = nI (p + 1) := nI_add _ _
  have hsum := totT_s (h := π.1) (S := setOfQ ρ π.1 k) (sl := π.2.2) (n := p) Q hW hk (by omega)
  have h171 : ∃ hd2, jL_placed_171 (nI k) (nI (sumNQ (totT ρ k (setOfQ ρ π.1 k) π.1 π.2.2) p), nI p, hd) σ xs L (nI (bkv ρ k 1)) (nI x) = some (.inl (nI (sumNQ (totT ρ k (setOfQ ρ π.1 k) π.1 π.2.2) (p + 1)), nI (p + 1), hd2)) ∧ HD hd2 (gvS ρ k (setOfQ ρ π.1 k) π.1 π.2.2 (p + 1)).1 := by
    obtain ⟨hd2, n1, n2⟩ := nights_l hL Q H hk (x := x) (by omega)
    refine ⟨hd2, ?_, ?_⟩
    · unfold jL_placed_171
      try dsimp only
      rw [x3, Option.bind_some, Sum.elim_inl, show nI x / (10 : Int32) = nI (x / 10) from pk_div (d := 10) (by omega) (by omega) (by omega), if_neg (fun z => z rfl), x4, Option.bind_some, Sum.elim_inl, show nI (x / 10) * (10 : Int32) = nI (x / 10 * 10) from pk_mul _ _, pk_sub (by omega), if_pos (by congr 1; omega), n1, Option.bind_some, show fL_room xs L (nI (x / 10)) (3 : Int32) = some (nI (rmv ρ (x / 10) 3)) from roomR_h hL Q (i := 3) (by omega) (by omega), Option.bind_some, pk_mul, nI_add, ep]
      have : sumNQ (totT ρ k (setOfQ ρ π.1 k) π.1 π.2.2) (p + 1) = sumNQ (totT ρ k (setOfQ ρ π.1 k) π.1 π.2.2) p + rmv ρ (x / 10) 3 * bkv ρ k 1 := by
        show sumNQ (totT ρ k (setOfQ ρ π.1 k) π.1 π.2.2) p + totT ρ k (setOfQ ρ π.1 k) π.1 π.2.2 p = _
        unfold totT
        rw [← hxd, if_pos hx]
      rw [this]
    · have hg : bdN ρ k (setOfQ ρ π.1 k) π.1 π.2.2 p < 10 * ρ 4 := by rw [← hxd]; exact hx
      rw [gvS_suc hg, ← hxd]
      exact n2
  have h150 : ∀ t, t < 3 → t = (if p < bkv ρ k 2 then 1 else 2) → ∃ hd2, jL_placed_150 xs L (nI k) (nI (setOfQ ρ π.1 k)) (nI (sumNQ (totT ρ k (setOfQ ρ π.1 k) π.1 π.2.2) p), nI p, hd) σ (nI (bkv ρ k 1)) (nI t) = some (.inl (nI (sumNQ (totT ρ k (setOfQ ρ π.1 k) π.1 π.2.2) (p + 1)), nI (p + 1), hd2)) ∧ HD hd2 (gvS ρ k (setOfQ ρ π.1 k) π.1 π.2.2 (p + 1)).1 := by
    intro t ht3 ht
    have hbd : bdN ρ k (setOfQ ρ π.1 k) π.1 π.2.2 p = (if ffB ρ (gvS ρ k (setOfQ ρ π.1 k) π.1 π.2.2 p).1 k (setOfQ ρ π.1 k) t < 10 * ρ 4 then ffB ρ (gvS ρ k (setOfQ ρ π.1 k) π.1 π.2.2 p).1 k (setOfQ ρ π.1 k) t else ffB ρ (gvS ρ k (setOfQ ρ π.1 k) π.1 π.2.2 p).1 k (setOfQ ρ π.1 k) 0) := by
      rw [ht] <;> rfl
    unfold jL_placed_150
    try dsimp only
    rw [bedFor_l hL Q H hgh hk hS ht3, Option.bind_some]
    by_cases q : ffB ρ (gvS ρ k (setOfQ ρ π.1 k) π.1 π.2.2 p).1 k (setOfQ ρ π.1 k) t < 10 * ρ 4
    · rw [if_pos q] at hbd ⊢
      rw [if_pos (show (0 : Int32) ≤ nI (ffB ρ (gvS ρ k (setOfQ ρ π.1 k) π.1 π.2.2 p).1 k (setOfQ ρ π.1 k) t) from nI_le (a := 0) (Nat.zero_le _) (by omega)), ← hbd, ← hxd]
      exact h171
    · rw [if_neg q] at hbd ⊢
      rw [if_neg (show ¬ (0 : Int32) ≤ -nI 1 by decide), show fL_bedFor xs L (nI k) (nI (setOfQ ρ π.1 k)) (0 : Int32) hd = _ from bedFor_l hL Q H hgh hk hS (kd := 0) (by omega), Option.bind_some, if_pos (by rw [← hbd, ← hxd]; exact hx), ← hbd, ← hxd]
      exact h171
  unfold stL_placed_119
  try dsimp only
  rw [people_h hL Q hk, Option.bind_some, if_neg (nI_ge hp (by omega)), show fL_booking xs L (nI k) (2 : Int32) = some (nI (bkv ρ k 2)) from bookR_h hL Q hk (i := 2) (by omega), Option.bind_some]
  by_cases q : bkv ρ k 2 ≤ p
  · rw [if_pos (nI_le q (by omega))]
    exact h150 2 (by omega) (by rw [if_neg (by omega)])
  · rw [if_neg (fun z => q ((nI_leI (by omega) (by omega)).mp z))]
    exact h150 1 (by omega) (by rw [if_pos (by omega)])
theorem placed_l (hL : L ≤ 260) (Q : RQ xs L ρ) (hW : WF ρ) (h1 : I1 σ ρ) (h3 : I3 ρ) (hk : k < ρ 37) (hB : PBQ π) (SB : SmB ρ k (plc1 ρ k π) (plc ρ)) (H : HD hd π.1) : ∃ hd2, fL_placed xs L (nI k) σ hd = some (nI (pdB ρ (plc1 ρ k π) k) - nI (wkB ρ (plc1 ρ k π) k), hd2) ∧ HD hd2 (plc1 ρ k π).1 := by
  have hl := RQ_le Q
  have hb := RQ_bk Q hk
  have hst := RQ_st Q
  have hS := setOf_lt (ρ := ρ) (h := π.1) (b := k) (by omega)
  unfold fL_placed
  rw [rooms_l hL Q H hB.1 hk, Option.bind_some, show fL_booking xs L (nI k) (1 : Int32) = some (nI (bkv ρ k 1)) from bookR_h hL Q hk (i := 1) (by omega), Option.bind_some, q_placed h1 h3 hk, Option.bind_some, Sum.elim_inl, SB.1]
  by_cases hne : setOfQ ρ π.1 k = 0
  · obtain ⟨w1, w2, w3, w4⟩ := plc1_wk (π := π) hne
    have hhas : hasB (plc ρ) k = false := by
      refine decide_eq_false ?_
      rw [SB.1, w1]
      omega
    rw [hne, if_neg (fun z => z rfl), w1, if_neg (fun z => z rfl), q_roomsOf h1 h3 hk, Option.bind_some, Sum.elim_inl, SB.2.1, w2, if_neg (fun z => z rfl), q_pays h1 h3 hk, Option.bind_some, Sum.elim_inl, SB.2.2.1, w3, if_neg (fun z => z rfl)]
    have en : fL_noBed (nI k) (0 : Int32) σ = some (2 : Int32) := by
      unfold fL_noBed
      rw [show fX5_bedOf (nI k) (0 : Int32) σ = some (.inr 4) from q_bedW h1 h3 hk (p := 0) (by omega) hhas, Option.bind_some, Sum.elim_inr, if_neg (by omega), if_pos rfl]
    rw [en, Option.bind_some, if_neg (fun z => z rfl), show fL_setting xs L (1 : Int32) = some (nI (ρ 1)) from setR_h hL Q (i := 1) (by omega), Option.bind_some, people_h hL Q hk, Option.bind_some, w4]
    refine ⟨hd, ?_, ?_⟩
    · have ev : ((-(nI (ρ 1))) * nI (prs ρ k)) * nI (bkv ρ k 1) = nI 0 - nI (ρ 1 * prs ρ k * bkv ρ k 1) := by
        rw [Int32.neg_mul, Int32.neg_mul, pk_mul, pk_mul]
        exact (Int32.zero_sub _).symm
      rw [ev]
    · have e1 : (plc1 ρ k π).1 = π.1 := by unfold plc1; rw [if_pos hne]
      rw [e1]; exact H
  · obtain ⟨c1, c2, c3, c4⟩ := plc1_eq hW hk hne
    have e1 : plc1 ρ k π = ((gvS ρ k (setOfQ ρ π.1 k) π.1 π.2.2 (prs ρ k)).1, upQ π.2.1 k (becOf ρ π.1 k), (gvS ρ k (setOfQ ρ π.1 k) π.1 π.2.2 (prs ρ k)).2) := if_neg hne
    have e21 : (plc1 ρ k π).2.1 k = becOf ρ π.1 k := by rw [e1]; exact up_s _ _ _
    have hbec := bec_pc (ρ := ρ) (b := k) (h := π.1) hW (by omega) hne
    rw [if_pos (show ¬ nI (setOfQ ρ π.1 k) = (0 : Int32) from nI_ne (b := 0) (by omega) (by omega) hne), pc_bits _ hS, Option.bind_some, e21, hbec]
    have h97 : ∀ t, ∃ hd2, jL_placed_97 (nI t) hd (nI k) σ (nI (setOfQ ρ π.1 k)) xs L (nI (bkv ρ k 1)) (nI t) = some (nI (pdB ρ (plc1 ρ k π) k) - nI (wkB ρ (plc1 ρ k π) k), hd2) ∧ HD hd2 (plc1 ρ k π).1 := by
      intro t
      unfold jL_placed_97
      rw [if_neg (fun z => z rfl), q_roomsOf h1 h3 hk, Option.bind_some, Sum.elim_inl, SB.2.1, c2, if_pos rfl]
      obtain ⟨a2, ⟨i1, i2, i3⟩, e⟩ := loop_go (step := stL_placed_119 xs L (nI k) (nI (setOfQ ρ π.1 k)) σ (nI (bkv ρ k 1))) (fun p (a : Int32 × Int32 × (Nat → Nat → Int32)) => a.1 = nI (sumNQ (totT ρ k (setOfQ ρ π.1 k) π.1 π.2.2) p) ∧ a.2.1 = nI p ∧ HD a.2.2 (gvS ρ k (setOfQ ρ π.1 k) π.1 π.2.2 p).1) (prs ρ k) (fun p a hp ⟨j1, j2, j3⟩ => by
        obtain ⟨as, ai, ah⟩ := a
        try dsimp only at j1 j2 j3
        subst j1
        subst j2
        obtain ⟨hd2, m1, m2⟩ := person_l hL Q hW h1 h3 hk hB hne SB hp j3
        exact ⟨_, m1, rfl, rfl, m2⟩) (9 - prs ρ k - 1 + 1) ((0 : Int32), (0 : Int32), hd) ⟨rfl, rfl, H⟩
      obtain ⟨as, ai, ah⟩ := a2
      try dsimp only at i1 i2 i3
      subst i1
      subst i2
      have ee : loop (stL_placed_119 xs L (nI k) (nI (setOfQ ρ π.1 k)) σ (nI (bkv ρ k 1))) 9 ((0 : Int32), (0 : Int32), hd) = some (.inl (nI (sumNQ (totT ρ k (setOfQ ρ π.1 k) π.1 π.2.2) (prs ρ k)), ah)) := by
        have e9 : 9 = prs ρ k + (9 - prs ρ k - 1 + 1) := by omega
        rw [e9, e]
        refine loop_end ?_ _
        unfold stL_placed_119
        try dsimp only
        rw [people_h hL Q hk, Option.bind_some, if_pos (nI_le (Nat.le_refl _) (by omega))]
      have hsum := totT_s (h := π.1) (S := setOfQ ρ π.1 k) (sl := π.2.2) (n := prs ρ k) Q hW hk (by omega)
      have hHD : HD ah (plc1 ρ k π).1 := by rw [e1]; exact i3
      have h293 : jL_placed_293 (nI k) σ (nI (sumNQ (totT ρ k (setOfQ ρ π.1 k) π.1 π.2.2) (prs ρ k)), ah) (nI (disc ρ k (sumNQ (totT ρ k (setOfQ ρ π.1 k) π.1 π.2.2) (prs ρ k)))) = some (nI (pdB ρ (plc1 ρ k π) k) - nI (wkB ρ (plc1 ρ k π) k), ah) := by
        unfold jL_placed_293
        rw [q_pays h1 h3 hk, Option.bind_some, Sum.elim_inl, SB.2.2.1, c3, if_neg (fun z => z rfl), c4, pk_sub (by omega), Nat.sub_zero]
      rw [ee, Option.bind_some, Sum.elim_inl, show fL_setting xs L (2 : Int32) = some (nI (ρ 2)) from setR_h hL Q (i := 2) (by omega), Option.bind_some, show fL_setting xs L (3 : Int32) = some (nI (ρ 3)) from setR_h hL Q (i := 3) (by omega), Option.bind_some]
      refine ⟨ah, ?_, hHD⟩
      try dsimp only
      by_cases q : bkv ρ k 1 < ρ 2
      · have ed : disc ρ k (sumNQ (totT ρ k (setOfQ ρ π.1 k) π.1 π.2.2) (prs ρ k)) = sumNQ (totT ρ k (setOfQ ρ π.1 k) π.1 π.2.2) (prs ρ k) := if_pos q
        rw [ed] at h293
        rw [if_pos (nI_lt q (by omega))]
        exact h293
      · have ed : disc ρ k (sumNQ (totT ρ k (setOfQ ρ π.1 k) π.1 π.2.2) (prs ρ k)) = sumNQ (totT ρ k (setOfQ ρ π.1 k) π.1 π.2.2) (prs ρ k) * (100 - ρ 3) / 100 := if_neg q
        have hm : sumNQ (totT ρ k (setOfQ ρ π.1 k) π.1 π.2.2) (prs ρ k) * (100 - ρ 3) ≤ 72000 * 100 := Nat.mul_le_mul hsum (by omega)
        rw [if_neg (fun z => q ((nI_ltI (by omega) (by omega)).mp z)), show (100 : Int32) - nI (ρ 3) = nI (100 - ρ 3) from pk_sub (a := 100) (by omega), pk_mul, show nI (sumNQ (totT ρ k (setOfQ ρ π.1 k) π.1 π.2.2) (prs ρ k) * (100 - ρ 3)) / (100 : Int32) = nI (sumNQ (totT ρ k (setOfQ ρ π.1 k) π.1 π.2.2) (prs ρ k) * (100 - ρ 3) / 100) from pk_div (d := 100) (by omega) (by omega) (by omega), ← ed]
        exact h293
    by_cases q : pc (setOfQ ρ π.1 k) = 1
    · rw [q, if_neg (fun z => z rfl), if_pos rfl]
      exact h97 1
    · have pk1 := pc_le (S := setOfQ ρ π.1 k)
      rw [if_pos (show ¬ nI (pc (setOfQ ρ π.1 k)) = (1 : Int32) from nI_ne (b := 1) (by omega) (by omega) q), if_neg q]
      exact h97 2
end
