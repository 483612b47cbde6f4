/-! layer 2: booking, undoing -/
def VS (p1 p2 : Int32) : Prop := ∃ f n, f ≤ 29 ∧ (1 ≤ n ∧ n ≤ 30 - f) ∧ p1 = nI f ∧ p2 = nI n
def VH (p3 p4 p5 : Int32) : Prop := ∃ w m a, w ≤ 12 ∧ ((if w = 0 then 1 else 0) ≤ m ∧ m ≤ 12 - w) ∧ a ≤ 99 ∧ p3 = nI w ∧ p4 = nI m ∧ p5 = nI a
theorem w01 {w : Nat} (hw : w ≤ 12) {α : Type} {x y : α} : (if nI w = nI 0 then x else y) = if w = 0 then x else y := by
  by_cases q : w = 0
  · rw [if_pos q, if_pos (by rw [q])]
  · rw [if_neg q, if_neg (nI_ne (by omega) (by omega) q)]
theorem isStay_Y {p1 p2 : Int32} (h : VS p1 p2) : fX6_isStay p1 p2 = some (nI 1) := by
  obtain ⟨f, n, h1, h2, rfl, rfl⟩ := h
  unfold fX6_isStay
  simp only [l_0, l_1, l_30]
  rw [isNight_Y (by omega), Option.bind_some, if_neg (by decide), pk_sub (by omega), isIn_rY h2.1 h2.2 (by omega), Option.bind_some, if_neg (by decide)]
theorem isStay_N {p1 p2 : Int32} (h : ¬ VS p1 p2) : fX6_isStay p1 p2 = some (nI 0) := by
  unfold fX6_isStay jX6_isStay_23
  simp only [l_0, l_1, l_30]
  rcases ix_em p1 30 with ⟨f, hf, rfl⟩ | q
  · rw [isNight_Y hf, Option.bind_some, if_neg (by decide), pk_sub (by omega), isIn_rN (by omega) (by omega) (fun ⟨n, a, b⟩ => h ⟨f, n, by omega, a, rfl, b⟩), Option.bind_some, if_pos rfl]
  · rw [isNight_N q, Option.bind_some, if_pos rfl]
theorem isGroup_Y {p3 p4 p5 : Int32} (h : VH p3 p4 p5) : fX6_isGroup p3 p4 p5 = some (nI 1) := by
  obtain ⟨w, m, a, h1, h2, h3, rfl, rfl, rfl⟩ := h
  unfold fX6_isGroup jX6_isGroup_20
  simp only [l_0, l_1, l_12, l_99]
  rw [isIn_rY (by omega) h1 (by omega), Option.bind_some, if_neg (by decide), pk_sub (by omega)]
  by_cases q : w = 0
  · rw [if_pos q] at h2
    rw [if_neg (fun z => z (by rw [q])), isIn_rY h2.1 h2.2 (by omega), Option.bind_some, if_neg (by decide), isIn_rY (by omega) h3 (by omega), Option.bind_some, if_neg (by decide)]
  · rw [if_neg q] at h2
    rw [if_pos (nI_ne (by omega) (by omega) q), isIn_rY h2.1 h2.2 (by omega), Option.bind_some, if_neg (by decide), isIn_rY (by omega) h3 (by omega), Option.bind_some, if_neg (by decide)]
theorem isGroup_N {p3 p4 p5 : Int32} (h : ¬ VH p3 p4 p5) : fX6_isGroup p3 p4 p5 = some (nI 0) := by
  unfold fX6_isGroup jX6_isGroup_20 jX6_isGroup_44
  simp only [l_0, l_1, l_12, l_99]
  rcases rg_em p3 0 12 with ⟨w, ⟨-, hw⟩, rfl⟩ | q
  · have key : ∀ t, t = (if w = 0 then 1 else 0) → ((fX6_isIn p4 (nI t) (nI 12 - nI w)).bind fun q3 => (if q3 = nI 0 then some (nI 0) else ((fX6_isIn p5 (nI 0) (nI 99)).bind fun q4 => (if q4 = nI 0 then some (nI 0) else (some (nI 1)))))) = some (nI 0) := by
      intro t ht
      have ht1 : t ≤ 1 := by rw [ht]; split <;> omega
      rw [pk_sub (by omega)]
      rcases rg_em p4 t (12 - w) with ⟨m, hm, rfl⟩ | q2
      · rw [isIn_rY hm.1 hm.2 (by omega), Option.bind_some, if_neg (by decide), isIn_rN (by omega) (by omega) (fun ⟨a, b, c⟩ => h ⟨w, m, a, hw, by rw [← ht]; exact hm, b.2, rfl, rfl, c⟩), Option.bind_some, if_pos rfl]
      · rw [isIn_rN (by omega) (by omega) q2, Option.bind_some, if_pos rfl]
    rw [isIn_rY (by omega) hw (by omega), Option.bind_some, if_neg (by decide)]
    by_cases q : w = 0
    · rw [if_neg (fun z => z (by rw [q]))]
      exact key 1 (by rw [if_pos q])
    · rw [if_pos (nI_ne (by omega) (by omega) q)]
      exact key 0 (by rw [if_neg q])
  · rw [isIn_rN (by omega) (by omega) q, Option.bind_some, if_pos rfl]
theorem chkG_Y {p1 p2 p3 p4 p5 : Int32} (h : VS p1 p2) (h2 : VH p3 p4 p5) : fX5_checkGroup p1 p2 p3 p4 p5 = some (.inl ()) := by
  obtain ⟨f, n, a1, a2, rfl, rfl⟩ := h
  obtain ⟨w, m, a, b1', b2, b3, rfl, rfl, rfl⟩ := h2
  unfold fX5_checkGroup jX5_checkGroup_33
  simp only [l_0, l_1, l_12, l_29, l_30, l_99]
  rw [rngY (by omega) a1 (by omega), Option.bind_some, Sum.elim_inl, pk_sub (by omega), rngY a2.1 a2.2 (by omega), Option.bind_some, Sum.elim_inl, rngY (by omega) b1' (by omega), Option.bind_some, Sum.elim_inl, pk_sub (by omega)]
  by_cases q : w = 0
  · rw [if_pos q] at b2
    rw [if_neg (fun z => z (by rw [q])), rngY b2.1 b2.2 (by omega), Option.bind_some, Sum.elim_inl, rngY (by omega) b3 (by omega), Option.bind_some, Sum.elim_inl]
  · rw [if_neg q] at b2
    rw [if_pos (nI_ne (by omega) (by omega) q), rngY b2.1 b2.2 (by omega), Option.bind_some, Sum.elim_inl, rngY (by omega) b3 (by omega), Option.bind_some, Sum.elim_inl]
theorem chkG_N {p1 p2 p3 p4 p5 : Int32} (h : ¬ (VS p1 p2 ∧ VH p3 p4 p5)) : fX5_checkGroup p1 p2 p3 p4 p5 = some (.inr 2) := by
  unfold fX5_checkGroup jX5_checkGroup_33
  simp only [l_0, l_1, l_12, l_29, l_30, l_99]
  rcases rg_em p1 0 29 with ⟨f, ⟨-, hf⟩, rfl⟩ | q
  · rw [rngY (by omega) hf (by omega), Option.bind_some, Sum.elim_inl, pk_sub (by omega)]
    rcases rg_em p2 1 (30 - f) with ⟨n, hn, rfl⟩ | q
    · have hS : VS (nI f) (nI n) := ⟨f, n, hf, hn, rfl, rfl⟩
      rw [rngY hn.1 hn.2 (by omega), Option.bind_some, Sum.elim_inl]
      rcases rg_em p3 0 12 with ⟨w, ⟨-, hw⟩, rfl⟩ | q
      · rw [rngY (by omega) hw (by omega), Option.bind_some, Sum.elim_inl, pk_sub (by omega)]
        have key : ∀ t, t = (if w = 0 then 1 else 0) → ((fX5_checkRange p4 (nI t) (nI (12 - w))).bind fun q11 => Sum.elim (fun _ => ((fX5_checkRange p5 (nI 0) (nI 99)).bind fun q14 => Sum.elim (fun _ => (some (.inl ()))) (fun e16 => (some (.inr e16))) q14)) (fun e13 => (some (.inr e13))) q11) = (some (.inr 2) : Option (Unit ⊕ Nat)) := by
          intro t ht
          have ht1 : t ≤ 1 := by rw [ht]; split <;> omega
          rcases rg_em p4 t (12 - w) with ⟨m, hm, rfl⟩ | q2
          · rw [rngY hm.1 hm.2 (by omega), Option.bind_some, Sum.elim_inl, rngN (by omega) (by omega) (fun ⟨a, b, c⟩ => h ⟨hS, ⟨w, m, a, hw, by rw [← ht]; exact hm, b.2, rfl, rfl, c⟩⟩), Option.bind_some, Sum.elim_inr]
          · rw [rngN (by omega) (by omega) q2, Option.bind_some, Sum.elim_inr]
        by_cases q : w = 0
        · rw [if_neg (fun z => z (by rw [q]))]
          exact key 1 (by rw [if_pos q])
        · rw [if_pos (nI_ne (by omega) (by omega) q)]
          exact key 0 (by rw [if_neg q])
      · rw [rngN (by omega) (by omega) q, Option.bind_some, Sum.elim_inr]
    · rw [rngN (by omega) (by omega) q, Option.bind_some, Sum.elim_inr]
  · rw [rngN (by omega) (by omega) q, Option.bind_some, Sum.elim_inr]
/-! the row with a booking laid -/
theorem layB_lo {ρ : RwQ} {f n w m a c k : Nat} (hk : k < 37) : layB ρ f n w m a c k = ρ k := by
  unfold layB
  rw [up_n (by omega), setB_lo (by omega), setB_lo (by omega), setB_lo (by omega), setB_lo (by omega), setB_lo (by omega), setB_lo (by omega), setB_lo (by omega), setB_lo (by omega), setB_lo (by omega)]
theorem layB_37 {ρ : RwQ} {f n w m a c : Nat} : layB ρ f n w m a c 37 = ρ 37 + 1 := up_s _ _ _
theorem layB_hi {ρ : RwQ} {f n w m a c k : Nat} (h16 : ρ 37 ≤ 16) (hk : 191 ≤ k) : layB ρ f n w m a c k = ρ k := by
  unfold layB
  rw [up_n (by omega), setB_hi (by omega) (by omega) hk, setB_hi (by omega) (by omega) hk, setB_hi (by omega) (by omega) hk, setB_hi (by omega) (by omega) hk, setB_hi (by omega) (by omega) hk, setB_hi (by omega) (by omega) hk, setB_hi (by omega) (by omega) hk, setB_hi (by omega) (by omega) hk, setB_hi (by omega) (by omega) hk]
theorem layB_bk {ρ : RwQ} {f n w m a c b k : Nat} (hk : k < 9) : bkv (layB ρ f n w m a c) b k = if b = ρ 37 then (if k = 8 then 0 else if k = 7 then 0 else if k = 6 then 0 else if k = 5 then c else if k = 4 then a else if k = 3 then m else if k = 2 then w else if k = 1 then n else f) else bkv ρ b k := by
  unfold layB
  rw [bkv_up (by omega), bkv_setB (by omega) hk, bkv_setB (by omega) hk, bkv_setB (by omega) hk, bkv_setB (by omega) hk, bkv_setB (by omega) hk, bkv_setB (by omega) hk, bkv_setB (by omega) hk, bkv_setB (by omega) hk, bkv_setB (by omega) hk]
  by_cases q : b = ρ 37
  · simp only [q, true_and, if_true]
    have : k = 0 ∨ k = 1 ∨ k = 2 ∨ k = 3 ∨ k = 4 ∨ k = 5 ∨ k = 6 ∨ k = 7 ∨ k = 8 := by omega
    rcases this with rfl | rfl | rfl | rfl | rfl | rfl | rfl | rfl | rfl <;> simp
  · simp only [q, false_and, if_false]
theorem layB_ext {ρ : RwQ} {f n w m a c : Nat} (h16 : ρ 37 ≤ 16) : ExtQ ρ (layB ρ f n w m a c) := by
  refine ⟨fun k hk => layB_lo hk, layB_37, fun b k hb hk => ?_, ?_, fun k hk => layB_hi h16 hk⟩
  · rw [layB_bk hk, if_neg (by omega)]
  · rw [layB_bk (by omega), if_pos rfl, if_pos rfl]
theorem layB_WF {ρ : RwQ} (hW : WF ρ) (h16 : ρ 37 ≤ 16) {f n w m a c : Nat} (hf : f ≤ 29) (hn : 1 ≤ n ∧ n ≤ 30 - f) (hw : w ≤ 12) (hm : (if w = 0 then 1 else 0) ≤ m ∧ m ≤ 12 - w) (ha : a ≤ 99) (hc : c ≤ 100) : WF (layB ρ f n w m a c) := by
  obtain ⟨w1, w2, w3, w4, w5⟩ := hW
  refine ⟨by rw [layB_lo (by omega)]; exact w1, by rw [layB_37]; omega, ?_, fun r hr => ?_, fun b hb => ?_⟩
  · rw [layB_lo (by omega), layB_lo (by omega), layB_lo (by omega), layB_lo (by omega)]; exact w3
  · rw [layB_lo (by omega)] at hr
    have hr2 : ∀ k, k < 4 → rmv (layB ρ f n w m a c) r k = rmv ρ r k := fun k hk => layB_lo (by omega)
    unfold WFr
    rw [hr2 0 (by omega), hr2 1 (by omega), hr2 2 (by omega), hr2 3 (by omega)]
    exact w4 r hr
  · rw [layB_37] at hb
    by_cases q : b = ρ 37
    · unfold WFb prs
      rw [layB_bk (by omega), layB_bk (by omega), layB_bk (by omega), layB_bk (by omega), layB_bk (by omega), layB_bk (by omega), layB_bk (by omega), layB_bk (by omega), layB_bk (by omega)]
      simp only [if_pos q]
      simp only [↓reduceIte, Nat.reduceEqDiff]
      have hm1 : 1 ≤ w + m := by
        by_cases z : w = 0
        · rw [if_pos z] at hm; omega
        · omega
      refine ⟨by omega, ⟨hn.1, by omega⟩, ⟨hw, by omega, hm1, by omega⟩, ha, hc, by omega, by omega, by omega⟩
    · have hb2 : ∀ k, k < 9 → bkv (layB ρ f n w m a c) b k = bkv ρ b k := fun k hk => by rw [layB_bk hk, if_neg q]
      unfold WFb prs
      rw [hb2 0 (by omega), hb2 1 (by omega), hb2 2 (by omega), hb2 3 (by omega), hb2 4 (by omega), hb2 5 (by omega), hb2 6 (by omega), hb2 7 (by omega), hb2 8 (by omega)]
      exact w5 b (by omega)
/-- the class fills in a booking -/
theorem fill_h {σ : Mem} {j : Nat} {ρ : RwQ} {f n w m a c : Nat} : OkQ (fX0_fill j (ρ 37) (nI f) (nI n) (nI w) (nI m) (nI a) (nI c) σ) (fun σ2 => HBk σ2 j (ρ 37) (layB ρ f n w m a c) (ρ 37) ∧ rJ σ2 2 j (ρ 37) = 0 ∧ FrG (fun k y r => (40 ≤ k ∧ k ≤ 48) ∧ y = j ∧ r = ρ 37) (fun k y r => k = 2 ∧ y = j ∧ r = ρ 37) σ σ2) := by
  unfold fX0_fill
  refine ⟨_, rfl, ?_, ?_, ?_⟩
  · unfold HBk prs
    rw [layB_bk (by omega), layB_bk (by omega), layB_bk (by omega), layB_bk (by omega), layB_bk (by omega), layB_bk (by omega), layB_bk (by omega), layB_bk (by omega)]
    simp [rI_wI, rI_wJ, nI_add, nI_0]
  · simp [rJ_wI, rJ_wJ]
  · exact FrG_tr (FrG_tr (FrG_tr (FrG_tr (FrG_tr (FrG_tr (FrG_tr (FrG_tr (FrG_tr (FrG_wJ (by omega)) (FrG_wI (by omega))) (FrG_wI (by omega))) (FrG_wI (by omega))) (FrG_wI (by omega))) (FrG_wI (by omega))) (FrG_wI (by omega))) (FrG_wI (by omega))) (FrG_wI (by omega))) (FrG_wI (by omega))
/-- a row of bookings behind the last one is nobody's -/
theorem HR_row {K KJ : Nat → Nat → Nat → Prop} {σ σ2 : Mem} {j : Nat} {ρ : RwQ} (h : HR σ j ρ) (F : FrG K KJ σ σ2) (hk : ∀ k r, K k j r → 40 ≤ k ∧ k ≤ 49 ∧ ρ 37 ≤ r) : HR σ2 j ρ := by
  obtain ⟨⟨a1, a2, a3, a4, a5, a6, a7, a8, a9⟩, ht, hq, hc⟩ := h
  have e : ∀ k r, (k < 40 ∨ 49 < k ∨ r < ρ 37) → rI σ2 k j r = rI σ k j r := fun k r q => F.1 k j r (fun w => by have := hk k r w; omega)
  refine ⟨⟨by rw [e 20 0 (by omega)]; exact a1, by rw [e 21 0 (by omega)]; exact a2, by rw [e 22 0 (by omega)]; exact a3, by rw [e 24 0 (by omega)]; exact a4, by rw [e 25 0 (by omega)]; exact a5, by rw [e 26 0 (by omega)]; exact a6, by rw [e 27 0 (by omega)]; exact a7, fun r hr => ?_, fun b hb => ?_⟩, fun b hb => by rw [e 49 b (by omega)]; exact ht b hb, ⟨by rw [e 23 0 (by omega)]; exact hq.1, fun k hk2 => by rw [e 28 k (by omega)]; exact hq.2 k hk2⟩, fun n hn => by rw [e 29 n (by omega)]; exact hc n hn⟩
  · have := a8 r hr
    unfold HRm at this ⊢
    rw [e 30 r (by omega), e 31 r (by omega), e 32 r (by omega), e 33 r (by omega)]; exact this
  · have := a9 b hb
    unfold HBk at this ⊢
    rw [e 40 b (by omega), e 41 b (by omega), e 42 b (by omega), e 43 b (by omega), e 44 b (by omega), e 45 b (by omega), e 46 b (by omega), e 47 b (by omega), e 48 b (by omega)]; exact this
theorem NM0 : NMq 0 0 := ⟨[], by decide, fun l hl => absurd hl List.not_mem_nil, by decide +kernel, by decide +kernel⟩
section
variable {σ μ : Mem}
theorem ANm_book (hIn : InQ σ μ) (p1 p2 p3 p4 p5 p6 : Int32) : ANm (fX5_book p1 p2 p3 p4 p5 p6 σ) (fX6_book p1 p2 p3 p4 p5 p6 μ) [(2, 1), (1, 2)] InQ := by
  obtain ⟨ρ, h1, C, h3, hN, h5, h6, h7⟩ := id hIn
  have h16 := h3.2.2
  have C0 := cur0 C
  have hlt0 := I1_lt h1
  by_cases hS : VS p1 p2
  · by_cases hH : VH p3 p4 p5
    · rcases rg_em p6 0 100 with ⟨c, ⟨-, hc⟩, rfl⟩ | q
      · by_cases hfull : ρ 37 = 16
        · refine ANm_no hIn 1 2 (by decide) ?_ ?_
          · unfold fX5_book
            simp only [l_0, l_1, l_16, l_100]
            rw [chkG_Y hS hH, Option.bind_some, Sum.elim_inl, rngY (by omega) hc (by omega), Option.bind_some, Sum.elim_inl, gd_pos hlt0, h1.2.1.1.2.2.1, if_neg (nI_nlt (by omega) (by omega))]
          · unfold fX6_book
            simp only [l_0, l_1, l_2, l_16, l_37, l_100]
            rw [isStay_Y hS, Option.bind_some, if_neg (by decide), isGroup_Y hH, Option.bind_some, if_neg (by decide), isIn_rY (by omega) hc (by omega), Option.bind_some, if_pos (by decide), get_s C0 (by omega), Option.bind_some, if_neg (fun w => w (by rw [hfull]))]
            exact ref_no 2
        · have h15 : ρ 37 ≤ 15 := by omega
          obtain ⟨σ2, μ2, e1, e2, hP, e3, e4⟩ := rk_pre h1 C h3 hN h5 h6 h7
          have hlt : rP σ2 0 < 12 := by have := hP.1.1; omega
          have C2 := hP.2.2.1
          obtain ⟨f, n, f1, f2, rfl, rfl⟩ := id hS
          obtain ⟨w, m, a, w1, w2, w3, rfl, rfl, rfl⟩ := id hH
          have hE : ExtQ ρ (layB ρ f n w m a c) := layB_ext h16
          have hWF : WF (layB ρ f n w m a c) := layB_WF h3.1 h16 f1 f2 w1 w2 w3 hc
          obtain ⟨σ3, x1, x2, x3, x4⟩ := fill_h (σ := σ2) (j := rP σ2 0) (ρ := ρ) (f := f) (n := n) (w := w) (m := m) (a := a) (c := c)
          have hP3 : rP σ3 0 = rP σ2 0 := FrG_P x4 0
          have hR3 : HR σ3 (rP σ2 0) ρ := HR_row hP.2.1 x4 (fun k r z => by omega)
          obtain ⟨σ4, y1, y2, y3, y4, y5⟩ := tellNext_h hR3 hWF h3.2.1 hE h15 x2
          have hP4 : rP σ4 0 = rP σ2 0 := by rw [Fr_P y5 0, hP3]
          have e37 : cms (layB ρ f n w m a c) (ρ 37) 37 = ρ 37 + 1 := by rw [(cms_same (by omega)).1 37 (by omega), layB_37]
          have e4' : cms (layB ρ f n w m a c) (ρ 37) 4 = ρ 4 := by rw [(cms_same (by omega)).1 4 (by omega), layB_lo (by omega)]
          obtain ⟨μ3, z1, z2, z3⟩ := lays_s C2 h16 (f := f) (n := n) (w := w) (m := m) (a := a) (c := c)
          have C3 : Cur (wJ μ3 12 0 (ρ 37) 0) 0 (layB ρ f n w m a c) := z2
          have h191 : layB ρ f n w m a c 191 < 16 := by
            rw [layB_hi h16 (by omega)]
            have := h3.2.1.1; omega
          obtain ⟨μ4, v1, v2, v3⟩ := comes_s C3 hWF h191 (b := ρ 37) (by rw [layB_37]; omega)
          have FG : FrG (KHQ (rP σ2 0)) (fun k y r => k = 2 ∧ y = rP σ2 0 ∧ r = ρ 37) σ2 σ4 := FrG_tr (FrG_mono x4 (fun k x r z => by unfold KHQ; omega) (fun k x r z => z)) (Fr_G y5)
          have GG : FrG (KRQ 0) (fun k _ r => k = 12 ∧ r = ρ 37) μ2 μ4 := FrG_tr (Fr_G z3) (FrG_tr (FrG_wJ ⟨rfl, rfl⟩) (Fr_G v3))
          have hj := hP.1
          have hP4b : rP σ4 1 = rP σ2 1 := FrG_P FG 1
          have hPre : Pre σ4 μ4 (cms (layB ρ f n w m a c) (ρ 37)) := by
            refine ⟨by rw [hP4, hP4b]; exact hj, by rw [hP4]; exact y2, v2, ⟨y4, y3, by omega⟩, ?_, I5_edit hP.2.2.2.2.2.1 FG GG (fun k x r z => by unfold KHQ at z; omega) (fun k x r z _ => by omega) (fun k x r z => by unfold KRQ at z; omega) (fun k x r z => by omega) (by omega), I6_fr hP.2.2.2.2.2.2.1 FG GG (fun k x r z => by unfold KHQ at z; omega) (fun k x r z => by unfold KRQ at z; omega), I7_fr hP.2.2.2.2.2.2.2 FG GG (fun k x r z => by unfold KHQ at z; omega) (fun k x r z => by unfold KRQ at z; omega)⟩
            rw [hP4]
            obtain ⟨n1, n2⟩ := hP.2.2.2.2.1
            refine ⟨fun r hr => ?_, fun b hb => ?_⟩
            · rw [FG.2.1 1 _ r (by omega), GG.2.1 11 0 r (by omega)]; exact n1 r (by omega)
            · by_cases hbn : b = ρ 37
              · have q1 : rJ σ4 2 (rP σ2 0) b = 0 := by rw [Fr_J y5, hbn]; exact x3
                have q2 : rJ μ4 12 0 b = 0 := by rw [Fr_J v3, hbn, rJ_wJ_self]
                rw [q1, q2]; exact NM0
              · rw [FG.2.1 2 _ b (by omega), GG.2.1 12 0 b (by omega)]; exact n2 b (by omega)
          obtain ⟨σ5, m1, m2, m3⟩ := make_in hPre
          refine Or.inl ⟨nI (ρ 37), σ5, ?_, ?_⟩
          · unfold fX5_book
            simp only [l_0, l_1, l_16, l_100]
            rw [chkG_Y hS hH, Option.bind_some, Sum.elim_inl, rngY (by omega) hc (by omega), Option.bind_some, Sum.elim_inl, gd_pos hlt0, h1.2.1.1.2.2.1, if_pos (nI_lt (by omega) (by omega)), e1, Option.bind_some, gd_pos hlt, hP.2.1.1.2.2.1, gd_inb (by omega) (by omega), nI_clamp (by omega), x1, Option.bind_some, gd_pos (by rw [hP3]; exact hlt), hP3, y1, Option.bind_some, gd_pos (by rw [hP4]; exact hlt), m1, Option.bind_some, gd_pos (by rw [Fr_P m3 0, hP4]; exact hlt), Fr_P m3 0, m3.1 22 _ 0 (by unfold KPc; omega), hP4, y2.1.2.2.1, e37, nI_sub1 (by omega), Nat.add_sub_cancel]
          · unfold fX6_book
            simp only [l_0, l_1, l_16, l_37, l_100]
            rw [isStay_Y hS, Option.bind_some, if_neg (by decide), isGroup_Y hH, Option.bind_some, if_neg (by decide), isIn_rY (by omega) hc (by omega), Option.bind_some, if_pos (by decide), get_s C0 (by omega), Option.bind_some, if_pos (nI_ne (by omega) (by omega) hfull), e2, Option.bind_some, z1, Option.bind_some, gd_inb (by omega) (by omega), nI_clamp (by omega), v1, Option.bind_some]
            refine ⟨_, rfl, rfl, ?_, m2⟩
            show rI μ4 60 0 0 = nI 0
            rw [GG.1 60 0 0 (by unfold KRQ; omega)]; exact e3
      · refine ANm_no hIn 2 1 (by decide) ?_ ?_
        · unfold fX5_book
          simp only [l_0, l_100]
          rw [chkG_Y hS hH, Option.bind_some, Sum.elim_inl, rngN (by omega) (by omega) q, Option.bind_some, Sum.elim_inr]
        · unfold fX6_book jX6_book_35
          simp only [l_0, l_1, l_100]
          rw [isStay_Y hS, Option.bind_some, if_neg (by decide), isGroup_Y hH, Option.bind_some, if_neg (by decide), isIn_rN (by omega) (by omega) q, Option.bind_some, if_neg (by decide)]
          exact ref_no 1
    · refine ANm_no hIn 2 1 (by decide) ?_ ?_
      · unfold fX5_book
        rw [chkG_N (fun z => hH z.2), Option.bind_some, Sum.elim_inr]
      · unfold fX6_book jX6_book_35
        simp only [l_0, l_1]
        rw [isStay_Y hS, Option.bind_some, if_neg (by decide), isGroup_N hH, Option.bind_some, if_pos rfl]
        exact ref_no 1
  · refine ANm_no hIn 2 1 (by decide) ?_ ?_
    · unfold fX5_book
      rw [chkG_N (fun z => hS z.1), Option.bind_some, Sum.elim_inr]
    · unfold fX6_book jX6_book_35
      simp only [l_0, l_1]
      rw [isStay_N hS, Option.bind_some, if_pos rfl]
      exact ref_no 1
end
