/-! layer 2: trials -/
def KT (k j r : Nat) : Prop := (70 ≤ k ∧ k ≤ 80) ∨ (k = 62 ∧ j = 0 ∧ r = 0) ∨ (k = 61 ∧ 208 ≤ r ∧ r < 416)
def trB (ρ : RwQ) (f n w m a c : Nat) : RwQ := setBQ (layB ρ f n w m a c) (ρ 37) 8 1
theorem row0_T {μ μ2 : Mem} {ρ : RwQ} (F : FrQ KT μ μ2) (h : ∀ k, k < 208 → rI μ 61 0 k = nI (ρ k)) : ∀ k, k < 208 → rI μ2 61 0 k = nI (ρ k) := fun k hk => by
  rw [F.1 61 0 k (by unfold KT; omega)]; exact h k hk
theorem row0_C {μ : Mem} {ρ : RwQ} (C : Cur μ 0 ρ) : ∀ k, k < 208 → rI μ 61 0 k = nI (ρ k) := fun k hk => by
  have := C.2.2 k hk
  rw [Nat.mul_zero, Nat.zero_add] at this
  exact this
theorem KR1_KT {k j r : Nat} (h : KRQ 1 k j r) : KT k j r := by unfold KRQ at h; unfold KT; omega
theorem KPm_KT {k j r : Nat} (h : KPm k j r) : KT k j r := by have := h.1; exact Or.inl ⟨by omega, by omega⟩
theorem begin_s {μ : Mem} {ρ : RwQ} (h : ∀ k, k < 208 → rI μ 61 0 k = nI (ρ k)) : OkQ (fX6_beginTrial μ) (fun μ2 => Cur μ2 1 ρ ∧ FrQ KT μ μ2) := by
  obtain ⟨μ1, e1, e2, e3⟩ := copyRow_s (μ := μ) (a := 0) (b := 1) (ρ := ρ) (by omega) (by omega) (by omega) (fun k hk => by rw [Nat.mul_zero, Nat.zero_add]; exact h k hk)
  unfold fX6_beginTrial
  simp only [l_0, l_1, l_208]
  rw [e1, Option.bind_some]
  refine ⟨_, rfl, ⟨by omega, rI_wI_self, fun k hk => ?_⟩, Fr_tr (Fr_mono e3 (fun k j r w => by unfold KT; omega)) (Fr_wI (Or.inr (Or.inl ⟨rfl, rfl, rfl⟩)))⟩
  rw [rI_wI_ne (by omega)]; exact e2 k hk
theorem tr_QT {μ μ2 : Mem} {ρ : RwQ} (C : Cur μ 0 ρ) (F : FrQ KT (wI μ 60 0 0 (nI 0)) μ2) : QTQ μ (wI μ2 62 0 0 (nI 0)) := by
  refine ⟨fun k j r h => ?_, fun k j r _ _ _ => ?_⟩
  · by_cases q : k = 62 ∧ j = 0 ∧ r = 0
    · obtain ⟨rfl, rfl, rfl⟩ := q
      rw [rI_wI_self]; exact C.2.1.symm
    · rw [rI_wI, if_neg q]
      unfold KQQ at h
      rw [F.1 k j r (by unfold KT; omega), rI_wI_ne (by omega)]
  · show rJ μ2 k j r = _
    rw [Fr_J F] <;> rfl
section
variable {σ μ : Mem} {ρ : RwQ} {s f n w m a c : Nat}
theorem adds_s (C : Cur μ s ρ) (h16 : ρ 37 ≤ 16) {f n w m a : Nat} : OkQ (fX6_addsAccepted (nI f) (nI n) (nI w) (nI m) (nI a) μ) (fun μ2 => Cur μ2 s (trB ρ f n w m a 0) ∧ FrQ (KRQ s) μ μ2) := by
  obtain ⟨μ1, e1, e2, e3⟩ := lays_s C h16 (f := f) (n := n) (w := w) (m := m) (a := a) (c := 0)
  unfold fX6_addsAccepted
  simp only [l_0, l_1, l_8, l_37]
  rw [e1, Option.bind_some, get_s e2 (by omega), Option.bind_some, layB_37, nI_sub1 (by omega), Nat.add_sub_cancel, lay_s e2 (by omega) (by omega), Option.bind_some]
  exact ⟨_, rfl, lay_C e2 (by omega) (by omega) 1, Fr_tr e3 (lay_F e2 (by omega) (by omega) (nI 1))⟩
theorem trB_37 : trB ρ f n w m a c 37 = ρ 37 + 1 := by
  unfold trB; rw [setB_lo (by omega), layB_37]
theorem trB_WF (hW : WF ρ) (h16 : ρ 37 ≤ 16) (hf : f ≤ 29) (hn : 1 ≤ n ∧ n ≤ 30 - f) (hw : w ≤ 12) (hm : (if w = 0 then 1 else 0) ≤ m ∧ m ≤ 12 - w) (ha : a ≤ 99) (hc : c ≤ 100) : WF (trB ρ f n w m a c) := WF_st (layB_WF hW h16 hf hn hw hm ha hc) (by omega) (by omega)
theorem trB_bk {b k : Nat} (hk : k < 9) : bkv (trB ρ f n w m a c) b k = if b = ρ 37 then (if k = 8 then 1 else if k = 7 then 0 else if k = 6 then 0 else if k = 5 then c else if k = 4 then a else if k = 3 then m else if k = 2 then w else if k = 1 then n else f) else bkv ρ b k := by
  unfold trB
  rw [bkv_setB (by omega) hk, layB_bk hk]
  by_cases q : b = ρ 37
  · by_cases q8 : k = 8
    · rw [if_pos ⟨q, q8⟩, if_pos q, if_pos q8]
    · rw [if_neg (fun z => q8 z.2), if_pos q, if_pos q, if_neg q8, if_neg q8]
  · rw [if_neg (fun z => q z.1), if_neg q, if_neg q]
theorem trB_EqP {c2 : Nat} : EqP (trB ρ f n w m a c) (trB ρ f n w m a c2) := by
  refine ⟨fun k hk hk2 => ?_, fun b k hb hk h5 => ?_, fun b hb => ?_⟩
  · by_cases q : k = 37
    · rw [q, trB_37, trB_37]
    · unfold trB
      rw [setB_lo (by omega), setB_lo (by omega), layB_lo (by omega), layB_lo (by omega)]
  · rw [trB_bk (by omega), trB_bk (by omega), if_neg h5, if_neg h5]
  · rw [trB_bk (by omega), trB_bk (by omega)]
    by_cases q : b = ρ 37
    · simp only [q, if_true]
    · simp only [q, if_false]
theorem spare_h (h1 : I1 σ ρ) (h3 : I3 ρ) {f n w m a : Nat} : OkQ (fX5_addToSpare (nI f) (nI n) (nI w) (nI m) (nI a) σ) (fun r => r.1 = nI (ρ 37) ∧ H0 r.2 (rP σ 1) (trB ρ f n w m a 100) ∧ Ht r.2 (rP σ 1) (trB ρ f n w m a 100) ∧ STQ (rP σ 1) σ r.2) := by
  have h16 := h3.2.2
  have h8 := h3.1.1
  have hlt0 := I1_lt h1
  have hlt1 : rP σ 1 < 12 := by have := h1.1.2.1; omega
  have hE : ExtQ ρ (layB ρ f n w m a 100) := layB_ext h16
  obtain ⟨σ1, c0, c1, c2, c3, c4⟩ := copy_h (σ := σ) (j := rP σ 1) (j1 := rP σ 0) h1.1.2.2 h1.2.1 h3.1 h3.2.1.2.1
  obtain ⟨σ2, x1, x2, x3, x4⟩ := fill_h (σ := σ1) (j := rP σ 1) (ρ := ρ) (f := f) (n := n) (w := w) (m := m) (a := a) (c := 100)
  have hP1 : rP σ1 1 = rP σ 1 := FrG_P c4 1
  have hP2 : rP σ2 1 = rP σ 1 := by rw [FrG_P x4 1, hP1]
  have hR : HR σ2 (rP σ 1) ρ := HR_row c1 x4 (fun k r z => by omega)
  obtain ⟨σ3, e3⟩ : ∃ s, s = wI σ2 49 (rP σ 1) (ρ 37) (nI 1) := ⟨_, rfl⟩
  obtain ⟨σ4, e4⟩ : ∃ s, s = wI σ3 22 (rP σ 1) 0 (nI (ρ 37 + 1)) := ⟨_, rfl⟩
  have F3 : FrQ (fun k x r => (k = 49 ∧ x = rP σ 1 ∧ r = ρ 37) ∨ (k = 22 ∧ x = rP σ 1 ∧ r = 0)) σ2 σ4 := by rw [e4, e3]; exact Fr_tr (Fr_wI (Or.inl ⟨rfl, rfl, rfl⟩)) (Fr_wI (Or.inr ⟨rfl, rfl, rfl⟩))
  have e : fX5_addToSpare (nI f) (nI n) (nI w) (nI m) (nI a) σ = some (nI (ρ 37), σ4) := by
    unfold fX5_addToSpare
    simp only [l_1, l_100]
    have hP3 : rP σ3 1 = rP σ 1 := by rw [e3]; exact hP2
    rw [gd_pos hlt1, gd_pos hlt0, c0, Option.bind_some, hP1, gd_pos hlt1, c1.1.2.2.1, gd_inb (by omega) (by omega), nI_clamp (by omega), x1, Option.bind_some, hP2, gd_pos hlt1, ← e3, hP3, gd_pos hlt1, show rI σ3 22 (rP σ 1) 0 = nI (ρ 37) from by rw [e3, rI_wI_ne (by omega)]; exact hR.1.2.2.1, nI_add, ← e4]
  refine ⟨_, e, rfl, ?_, ?_, ?_⟩
  · refine H0_same (H0_ext hR.1 hE h8 (HBk_fr x2 F3 (fun k y1 y2 z => by omega)) (fun k r y1 y2 y3 y4 y5 y6 => F3.1 k _ r (by omega)) ?_) (Same_st (by omega)) (by rw [layB_lo (by omega)]; exact h8) (by rw [layB_37]; omega)
    rw [e4, rI_wI_self]
  · intro b hb
    rw [trB_37] at hb
    rw [trB_bk (by omega)]
    by_cases q : b = ρ 37
    · rw [if_pos q, if_pos rfl, q, e4, rI_wI_ne (by omega), e3, rI_wI_self]
    · rw [if_neg q, F3.1 49 _ b (by omega)]; exact hR.2.1 b (by omega)
  · exact ST_tr (ST_tr (ST_G c4 (fun k x r z => Or.inr (Or.inl z)) (fun k x r z => Or.inr z)) (ST_G x4 (fun k x r z => Or.inr (Or.inl ⟨by omega, z.2.1⟩)) (fun k x r z => Or.inr ⟨Or.inr z.1, z.2.1⟩))) (ST_fr F3 (fun k x r z => Or.inr (Or.inl ⟨by omega, by omega⟩)))
theorem ST_make {σ2 : Mem} {j : Nat} (F : FrQ (KPc 1) σ σ2) : STQ j σ σ2 := ST_fr F (fun k x r z => Or.inr (Or.inr z))
theorem spareNet_h {j : Nat} (hj : rP σ 1 = j) (hlt : j < 12) (h0 : H0 σ j ρ) (ht : Ht σ j ρ) (hW : WF ρ) : OkQ (fX5_netOfSpare σ) (fun r => r.1 = netV ρ ∧ FrQ (KPc 1) σ r.2) := by
  unfold fX5_netOfSpare
  rw [hj, gd_pos hlt]
  refine Ok_bind (make_h (q := 1) h0 ht hW) ?_
  rintro σ2 ⟨g1, g2, g3⟩
  refine ⟨_, rfl, ?_, g3⟩
  show rI σ2 55 1 0 - rI σ2 56 1 0 = _
  rw [g2.2.1, g2.2.2] <;> rfl
theorem ANm_wouldBe (hIn : InQ σ μ) (p1 p2 p3 p4 p5 : Int32) : ANm (fX5_wouldBe p1 p2 p3 p4 p5 σ) (fX6_wouldBe p1 p2 p3 p4 p5 μ) [(2, 1)] InQ := by
  obtain ⟨ρ, h1, C, h3, hN, h5, h6, h7⟩ := id hIn
  have h16 := h3.2.2
  have C0 := cur0 C
  have hlt0 := I1_lt h1
  have hlt1 : rP σ 1 < 12 := by have := h1.1.2.1; omega
  by_cases hS : VS p1 p2
  · by_cases hH : VH p3 p4 p5
    · obtain ⟨f, n, f1, f2, rfl, rfl⟩ := id hS
      obtain ⟨w, m, a, w1, w2, w3, rfl, rfl, rfl⟩ := id hH
      obtain ⟨⟨b0, σ2⟩, c0, c1, c2, c3, c4⟩ := spare_h h1 h3 (f := f) (n := n) (w := w) (m := m) (a := a)
      have hW : ∀ c, c ≤ 100 → WF (trB ρ f n w m a c) := fun c hc => trB_WF h3.1 h16 f1 f2 w1 w2 w3 hc
      obtain ⟨σ3, m1, m2, m3, m4⟩ := make_h (q := 1) c2 c3 (hW 100 (by omega))
      have hST : STQ (rP σ 1) σ σ3 := ST_tr c4 (ST_make m4)
      obtain ⟨μ1, r0, r1, r2⟩ := begin_s (row0_C C0)
      obtain ⟨μ2, s0, s1, s2⟩ := adds_s r1 h16 (f := f) (n := n) (w := w) (m := m) (a := a)
      obtain ⟨μ3, t0, t1, t2, t3⟩ := placesAll_s s1 (hW 0 (by omega))
      have FT : FrQ KT (wI μ 60 0 0 (nI 0)) μ3 := Fr_tr (Fr_tr r2 (Fr_mono s2 (fun k j r z => KR1_KT z))) (Fr_mono t3 (fun k j r z => KPm_KT z))
      refine Or.inl ⟨nI ((plc (trB ρ f n w m a 100)).2.1 (ρ 37)), σ3, ?_, ?_⟩
      · unfold fX5_wouldBe
        try dsimp only at c1 c2 c3 c4
        subst c1
        have hP : rP σ2 1 = rP σ 1 := c4.2.2 1
        rw [chkG_Y hS hH, Option.bind_some, Sum.elim_inl, c0, Option.bind_some]
        show gd (rP σ2 1 < 12) _ = _
        rw [hP, gd_pos hlt1, m1, Option.bind_some, gd_inb (by omega) (by omega), nI_clamp (by omega), m2.2.1 _ (by omega)]
      · unfold fX6_wouldBe
        simp only [l_0, l_1, l_37]
        rw [isStay_Y hS, Option.bind_some, if_neg (by decide), isGroup_Y hH, Option.bind_some, if_pos (by decide), r0, Option.bind_some, s0, Option.bind_some, t0, Option.bind_some, get_s t1 (by omega), Option.bind_some, trB_37, nI_sub1 (by omega), Nat.add_sub_cancel, gd_inb (by omega) (by omega), nI_clamp (by omega)]
        refine ⟨_, rfl, ?_, ?_, ?_⟩
        · show rI μ3 77 0 (ρ 37) = _
          rw [t2.2.1 _ (by omega), plc_c (trB_EqP (c2 := 100)) (hW 0 (by omega)).1]
        · show rI μ3 60 0 0 = _
          rw [FT.1 60 0 0 (by unfold KT; omega), rI_wI_self]
        · exact In_qt (In_st hIn hST rfl) (tr_QT C FT)
    · refine ANm_no hIn 2 1 (by decide) ?_ ?_
      · unfold fX5_wouldBe
        rw [chkG_N (fun z => hH z.2), Option.bind_some, Sum.elim_inr]
      · unfold fX6_wouldBe jX6_wouldBe_24
        simp only [l_0, l_1]
        rw [isStay_Y hS, Option.bind_some, if_neg (by decide), isGroup_N hH, Option.bind_some, if_neg (by decide)]
        exact ref_no 1
  · refine ANm_no hIn 2 1 (by decide) ?_ ?_
    · unfold fX5_wouldBe
      rw [chkG_N (fun z => hS z.1), Option.bind_some, Sum.elim_inr]
    · unfold fX6_wouldBe jX6_wouldBe_24
      simp only [l_0, l_1]
      rw [isStay_N hS, Option.bind_some, if_pos rfl]
      exact ref_no 1
end
