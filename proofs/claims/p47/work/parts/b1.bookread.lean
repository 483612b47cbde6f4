/-! p47, layer 2: a booking read -/
def wdB : List Nat := [98, 111, 111, 107]
def wdT : List Nat := [116, 111, 103, 101, 116, 104, 101, 114]
theorem wdB_ok : wdO wdB := by unfold wdO; decide +kernel
theorem wdT_ok : wdO wdT ∧ wdT.map (fun l => l - 96) = txW 5 := by unfold wdO; decide +kernel
theorem wd2_ok : ∀ b, b < 26 → wdO [103, 97 + b] ∧ lN (n8 ([103, 97 + b].map (fun l => l - 96))) = nmB b ∧ nmB b ≠ 0 := by unfold wdO; decide +kernel
/-- what follows the numbers of a booking -/
def tlB (t : Nat) (q : List Nat) : List Nat := if t = 1 then 32 :: (wdT ++ 59 :: q) else 59 :: q
section
variable {σ σ2 : Mem} {j : Nat} {ls q r : List Nat} {ρ : RwQ} {f n w m a c t x : Nat} {z : List Nat}
theorem group_A (ha : asc ls) (R : Rr σ ls r) (nx : NX ls r (dec f ++ 32 :: (dec n ++ 32 :: (dec w ++ 32 :: (dec m ++ 32 :: (dec a ++ 32 :: (dec c ++ x :: z))))))) (hx : ¬ (48 ≤ x ∧ x ≤ 57)) (hf : f ≤ 29) (hn : 1 ≤ n ∧ n ≤ 30 - f) (hw : w ≤ 12) (hm : (if w = 0 then 1 else 0) ≤ m ∧ m ≤ 12 - w) (hag : a ≤ 99) (hc : c ≤ 100) (b : Nat) : ∃ σ1, fX2_readGroup j b σ = (fX0_fill j b (nI f) (nI n) (nI w) (nI m) (nI a) (nI c) σ1).bind (fun q => some (nI 1, q)) ∧ Rr σ1 ls (dec c ++ x :: z) ∧ FA σ σ1 := by
  unfold fX2_readGroup
  obtain ⟨s1, a1, a2, a3, a4⟩ := num_A (lo := 0) (hi := 29) ha R nx (by omega) (Nat.zero_le _) hf (by omega)
  rw [show fX2_readNumber (0 : Int32) (29 : Int32) σ = some (nI 1, s1) from a1, Option.bind_some]
  try dsimp only
  rw [if_pos (by decide), a4, show (30 : Int32) - nI f = nI (30 - f) from pk_sub (a := 30) (by omega)]
  obtain ⟨s2, b1', b2, b3, b4⟩ := num_A (lo := 1) (hi := 30 - f) ha a2 (NX_n ha (by omega) (nb_dec (by omega) _)) (by omega) hn.1 hn.2 (by omega)
  rw [show fX2_readNumber (1 : Int32) (nI (30 - f)) s1 = some (nI 1, s2) from b1', Option.bind_some]
  try dsimp only
  rw [if_pos (by decide)]
  obtain ⟨s3, c1, c2, c3, c4⟩ := num_A (lo := 0) (hi := 12) ha b2 (NX_n ha (by omega) (nb_dec (by omega) _)) (by omega) (Nat.zero_le _) hw (by omega)
  rw [show fX2_readNumber (0 : Int32) (12 : Int32) s2 = some (nI 1, s3) from c1, Option.bind_some]
  try dsimp only
  rw [if_pos (by decide), c4]
  have key : ∀ u, u = (if w = 0 then 1 else 0) → ∃ σ1, jX2_readGroup_65 (nI 1, s3) j b (nI 1, s1) (nI 1, s2) (nI u) = (fX0_fill j b (nI f) (nI n) (nI w) (nI m) (nI a) (nI c) σ1).bind (fun q => some (nI 1, q)) ∧ Rr σ1 ls (dec c ++ x :: z) ∧ FA σ σ1 := by
    intro u hu
    unfold jX2_readGroup_65
    try dsimp only
    rw [c4, show (12 : Int32) - nI w = nI (12 - w) from pk_sub (a := 12) (by omega)]
    obtain ⟨s4, d1, d2, d3, d4⟩ := num_A (lo := u) (hi := 12 - w) ha c2 (NX_n ha (by omega) (nb_dec (by omega) _)) (by omega) (by rw [hu]; exact hm.1) hm.2 (by omega)
    rw [d1, Option.bind_some]
    try dsimp only
    rw [if_pos (by decide)]
    obtain ⟨s5, e1, e2, e3, e4⟩ := num_A (lo := 0) (hi := 99) ha d2 (NX_n ha (by omega) (nb_dec (by omega) _)) (by omega) (Nat.zero_le _) hag (by omega)
    rw [show fX2_readNumber (0 : Int32) (99 : Int32) s4 = some (nI 1, s5) from e1, Option.bind_some]
    try dsimp only
    rw [if_pos (by decide)]
    obtain ⟨s6, f1, f2, f3, f4⟩ := num_A (lo := 0) (hi := 100) ha e2 (NX_n ha (by omega) (nb_dec (by omega) _)) hx (Nat.zero_le _) hc (by omega)
    rw [show fX2_readNumber (0 : Int32) (100 : Int32) s5 = some (nI 1, s6) from f1, Option.bind_some]
    try dsimp only
    rw [if_pos (by decide), a4, b4, d4, e4, f4]
    exact ⟨s6, rfl, f2, FrG_tr (FrG_tr (FrG_tr (FrG_tr (FrG_tr a3 b3) c3) d3) e3) f3⟩
  by_cases hw0 : w = 0
  · rw [if_neg (fun z => z (by rw [hw0] <;> rfl))]
    exact key 1 (by rw [if_pos hw0])
  · have hne : ¬ nI w = (0 : Int32) := nI_ne (b := 0) (by omega) (by omega) hw0
    rw [if_pos hne]
    exact key 0 (by rw [if_neg hw0])
theorem isw_se (ha : asc ls) (R : Rr σ ls (59 :: q)) {i : Nat} (hi : i < 11) : fX2_isWord i σ = some (nI 0) := by
  obtain ⟨s, R1, R2⟩ := R
  rw [isw_h R1 hi]
  unfold isw
  rw [(tk_end ha R2 R1.2.1).1, decide_eq_false (fun z => by omega)]
  rfl
theorem book_fin (ha : asc ls) (h3 : I3 ρ) (h15 : ρ 37 ≤ 15) (hW : WF (layB ρ f n w m a c)) (ht : t ≤ 1) (R : Rr σ ls (59 :: q)) (hR : HR σ j ρ) (hB : HBk σ j (ρ 37) (lyT ρ f n w m a c t) (ρ 37)) (hN : LDn σ j ρ) (e1 : rJ σ 2 j (ρ 37) = nmB (ρ 37)) : SA (jX2_readBook_89 j σ) σ j ls q (cms (lyT ρ f n w m a c t) (ρ 37)) := by
  unfold jX2_readBook_89
  have hE : ExtQ ρ (lyT ρ f n w m a c t) := lyT_ext (by omega)
  have hW2 : WF (lyT ρ f n w m a c t) := WF_f6 hW (by omega) ht
  obtain ⟨σ2, y1, y2, y3, y4, y5⟩ := tellNext_h hR hW2 h3.2.1 hE h15 hB
  have GF : FrG (KHQ j) (fun _ _ _ => False) σ σ2 := Fr_G y5
  have e37 : cms (lyT ρ f n w m a c t) (ρ 37) 37 = ρ 37 + 1 := by rw [(cms_same (by omega)).1 37 (by omega), hE.2.1]
  have e4' : cms (lyT ρ f n w m a c t) (ρ 37) 4 = ρ 4 := by rw [(cms_same (by omega)).1 4 (by omega), hE.1 4 (by omega)]
  rw [if_pos (show rI σ 10 0 0 = (3 : Int32) from se_A ha R), y1, Option.bind_some]
  refine ⟨σ2, rfl, ⟨Rr_fr R GF (fun k x r z => by unfold KHQ at z; omega) (fun _ _ _ z => z.elim), y2, ⟨y4, y3, by omega⟩, ⟨fun r hr => ?_, fun b hb => ?_⟩⟩, FrG_mono GF (fun k x r z => Or.inr z) (fun _ _ _ z => z.elim)⟩
  · rw [GF.2.1 1 _ r (fun z => z)]; exact hN.1 r (by omega)
  · rw [GF.2.1 2 _ b (fun z => z)]
    by_cases hbn : b = ρ 37
    · rw [hbn]; exact e1
    · exact hN.2 b (by omega)
theorem book_A (ha : asc ls) (h15 : ρ 37 ≤ 15) (L : LD1 σ j ls (wdB ++ 32 :: ([103, 97 + ρ 37] ++ 32 :: (dec f ++ 32 :: (dec n ++ 32 :: (dec w ++ 32 :: (dec m ++ 32 :: (dec a ++ 32 :: (dec c ++ tlB t q)))))))) ρ) (hf : f ≤ 29) (hn : 1 ≤ n ∧ n ≤ 30 - f) (hw : w ≤ 12) (hm : (if w = 0 then 1 else 0) ≤ m ∧ m ≤ 12 - w) (hag : a ≤ 99) (hc : c ≤ 100) (ht : t ≤ 1) : SA (fX2_readBook j σ) σ j ls q (cms (lyT ρ f n w m a c t) (ρ 37)) := by
  obtain ⟨R, hR, h3, hN⟩ := L
  obtain ⟨wn1, wn2, wn3⟩ := wd2_ok (ρ 37) (by omega)
  unfold fX2_readBook
  simp only [l_0, l_1, l_16]
  rw [hR.1.2.2.1, if_pos (nI_lt (by omega) (by omega)), gd_inb (by omega) (by omega), nI_clamp (by omega)]
  obtain ⟨σ1, a1, a2, a3⟩ := adv_A R (NX_w ha wdB_ok (nb_w wn1 _))
  obtain ⟨w1, w2, -⟩ := wd_A ha a2 wn1 (by omega)
  rw [wn2] at w2
  have hR1 := HR_FA hR a3
  have hN1 := LDn_FA hN a3
  rw [a1, Option.bind_some, w1, if_neg (fun z => z rfl), w2, bookingNamed_A (n := ρ 37) hR1.1.2.2.1 (by omega) wn3 (fun b hb z => by
    rw [hN1.2 b hb] at z
    have := nmB_inj (by omega) (by omega) z
    omega), Option.bind_some, if_pos (by decide)]
  have tl : ∃ x z, tlB t q = x :: z ∧ ¬ (48 ≤ x ∧ x ≤ 57) := by
    unfold tlB
    split
    · exact ⟨32, _, rfl, by omega⟩
    · exact ⟨59, _, rfl, by omega⟩
  obtain ⟨tx, tz, tl1, tl2⟩ := tl
  have nx0 := NX_w (q := dec f ++ 32 :: (dec n ++ 32 :: (dec w ++ 32 :: (dec m ++ 32 :: (dec a ++ 32 :: (dec c ++ tlB t q)))))) ha wn1 (nb_dec (by omega) _)
  rw [tl1] at nx0 a2
  obtain ⟨σ3, g1, g2, g3⟩ := group_A (j := j) ha a2 nx0 tl2 hf hn hw hm hag hc (ρ 37)
  rw [← tl1] at g2
  obtain ⟨σ4, p1, p2, p3, p4⟩ := fill_h (σ := σ3) (j := j) (ρ := ρ) (f := f) (n := n) (w := w) (m := m) (a := a) (c := c)
  have hWF : WF (layB ρ f n w m a c) := layB_WF h3.1 (by omega) hf hn hw hm hag hc
  rw [g1, p1, Option.bind_some, Option.bind_some]
  try dsimp only
  rw [if_pos (by decide)]
  have hRr : HR σ4 j ρ := HR_row (HR_FA hR1 g3) p4 (fun k r z => by omega)
  obtain ⟨σ5, hσ5⟩ : ∃ t, t = wJ σ4 2 j (ρ 37) (nmB (ρ 37)) := ⟨_, rfl⟩
  have G5 : FrG (fun _ _ _ => False) (fun k x r => k = 2 ∧ x = j ∧ r = ρ 37) σ4 σ5 := by rw [hσ5]; exact FrG_wJ ⟨rfl, rfl, rfl⟩
  have e5 : rJ σ5 2 j (ρ 37) = nmB (ρ 37) := by rw [hσ5]; exact rJ_wJ_self
  have hR5 : HR σ5 j ρ := HR_g hRr G5 (fun _ _ _ _ z => z)
  have hB5 : HBk σ5 j (ρ 37) (layB ρ f n w m a c) (ρ 37) := by rw [hσ5]; exact p2
  rw [← hσ5]
  have R5 : Rr σ5 ls (dec c ++ tlB t q) := Rr_fr (Rr_fr g2 p4 (fun k x r z => by omega) (fun k x r z => by omega)) G5 (fun _ _ _ z => z.elim) (fun k x r z => by omega)
  have G15 : FrG (fun k x r => (8 ≤ k ∧ k ≤ 11) ∨ ((40 ≤ k ∧ k ≤ 48) ∧ x = j ∧ r = ρ 37)) (fun k x r => k = 0 ∨ (k = 2 ∧ x = j ∧ r = ρ 37)) σ1 σ5 := FrG_tr (FrG_mono g3 (fun k x r z => Or.inl z) (fun k x r z => Or.inl z)) (FrG_tr (FrG_mono p4 (fun k x r z => Or.inr z) (fun k x r z => Or.inr z)) (FrG_mono G5 (fun _ _ _ z => z.elim) (fun k x r z => Or.inr z)))
  have FK5 : FK j σ σ5 := FK_tr (FA_K a3) (FrG_mono G15 (fun k x r z => by omega) (fun k x r z => by omega))
  have hN5 : LDn σ5 j ρ := ⟨fun r hr => by rw [G15.2.1 1 j r (by omega)]; exact hN1.1 r hr, fun b hb => by rw [G15.2.1 2 j b (by omega)]; exact hN1.2 b hb⟩
  have ht2 : t = 0 ∨ t = 1 := by omega
  rcases ht2 with rfl | rfl
  · have etl : tlB 0 q = 59 :: q := if_neg (by omega)
    rw [etl] at R5
    obtain ⟨σ6, u1, u2, u3⟩ := adv_A R5 (NX_n2 ha (by omega))
    rw [u1, Option.bind_some, isw_se ha u2 (by omega), Option.bind_some, if_pos rfl]
    have h47 : rI σ6 47 j (ρ 37) = nI 0 := by
      have := hB5.2.2.2.2.2.2.2.1
      rw [layB_bk (by omega), if_pos rfl] at this
      rw [u3.1 47 _ _ (by omega)]; exact this
    have hB6 : HBk σ6 j (ρ 37) (lyT ρ f n w m a c 0) (ρ 37) := lyT_HBk hB5 h47 (fun k k1 k2 k3 => u3.1 k _ _ (by omega))
    obtain ⟨σ7, v1, v2, v3⟩ := book_fin ha h3 h15 hWF (by omega) u2 (HR_FA hR5 u3) hB6 (LDn_FA hN5 u3) (by rw [u3.2.1 2 _ _ (by omega)]; exact e5)
    exact ⟨σ7, v1, v2, FK_tr (FK_tr FK5 (FA_K u3)) v3⟩
  · have etl : tlB 1 q = 32 :: (wdT ++ 59 :: q) := if_pos rfl
    rw [etl] at R5
    obtain ⟨σ6, u1, u2, u3⟩ := adv_A R5 (NX_n ha (by omega) (nb_w wdT_ok.1 _))
    rw [u1, Option.bind_some, (wd_A ha u2 wdT_ok.1 (by omega)).2.2 5 (by omega), decide_eq_true wdT_ok.2, Option.bind_some, if_neg (by decide)]
    obtain ⟨σ7, hσ7⟩ : ∃ t, t = wI σ6 47 j (ρ 37) (nI 1) := ⟨_, rfl⟩
    have G7 : FrG (fun k x r => k = 47 ∧ x = j ∧ r = ρ 37) (fun _ _ _ => False) σ6 σ7 := by rw [hσ7]; exact FrG_wI ⟨rfl, rfl, rfl⟩
    have e47 : rI σ7 47 j (ρ 37) = nI 1 := by rw [hσ7, rI_wI_self]
    rw [← hσ7]
    have R7 := Rr_fr u2 G7 (fun k x r z => by omega) (fun _ _ _ z => z.elim)
    obtain ⟨σ8, x1, x2, x3⟩ := adv_A R7 (NX_w2 ha wdT_ok.1)
    rw [x1, Option.bind_some]
    have hR8 : HR σ8 j ρ := HR_FA (HR_row (HR_FA hR5 u3) G7 (fun k r z => by omega)) x3
    have hB8 : HBk σ8 j (ρ 37) (lyT ρ f n w m a c 1) (ρ 37) := lyT_HBk hB5 (by rw [x3.1 47 _ _ (by omega)]; exact e47) (fun k k1 k2 k3 => by rw [x3.1 k _ _ (by omega), G7.1 k _ _ (by omega), u3.1 k _ _ (by omega)])
    have hN8 : LDn σ8 j ρ := LDn_FA (LDn_g (LDn_FA hN5 u3) G7 (fun r => ⟨fun z => z, fun z => z⟩)) x3
    obtain ⟨σ9, v1, v2, v3⟩ := book_fin ha h3 h15 hWF (by omega) x2 hR8 hB8 hN8 (by rw [x3.2.1 2 _ _ (by omega), G7.2.1 2 _ _ (fun z => z), u3.2.1 2 _ _ (by omega)]; exact e5)
    exact ⟨σ9, v1, v2, FK_tr (FK_tr (FK_tr (FK_tr FK5 (FA_K u3)) (FrG_mono G7 (fun k x r z => by omega) (fun _ _ _ z => z.elim))) (FA_K x3)) v3⟩
end
