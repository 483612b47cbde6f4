/-! layer 2: what holds between calls -/
/-- a name: the class has its letters a byte each, the reference as a number of base 32 -/
def n8 (ls : List Nat) : Nat := ls.foldl (fun a l => a * 256 + (96 + l)) 0
def n5Q (ls : List Nat) : Nat := ls.foldl (fun a l => a * 32 + l) 0
def NMq (c m : Int64) : Prop := ∃ ls : List Nat, ls.length ≤ 8 ∧ (∀ l, l ∈ ls → 1 ≤ l ∧ l ≤ 26) ∧ c = lN (n8 ls) ∧ m = lN (n5Q ls)
def NMr (c m : Int64) : Prop := ∃ ls : List Nat, ls ≠ [] ∧ ls.length ≤ 8 ∧ (∀ l, l ∈ ls → 1 ≤ l ∧ l ≤ 26) ∧ c = lN (n8 ls) ∧ m = lN (n5Q ls)
def Nms (σ μ : Mem) (j : Nat) (ρ : RwQ) : Prop := (∀ r, r < ρ 4 → NMr (rJ σ 1 j r) (rJ μ 11 0 r)) ∧ (∀ b, b < ρ 37 → NMq (rJ σ 2 j b) (rJ μ 12 0 b))
def I1 (σ : Mem) (ρ : RwQ) : Prop := (rP σ 0 < 2 ∧ rP σ 1 < 2 ∧ rP σ 0 ≠ rP σ 1) ∧ HR σ (rP σ 0) ρ ∧ PC σ 0 (plc ρ) ∧ PMy σ 0 ρ (plc ρ)
def I3 (ρ : RwQ) : Prop := WF ρ ∧ WQ ρ ∧ ρ 37 ≤ 16
def I5 (σ μ : Mem) (ρ : RwQ) : Prop := ∃ (e f pn : Nat) (hist : Nat → RwQ), e ≤ 10 ∧ f < 10 ∧ pn < 10 ∧ rI σ 3 0 0 = nI e ∧ rI σ 2 0 0 = nI pn ∧ rI μ 63 0 0 = nI e ∧ rI μ 64 0 0 = nI f ∧ ∀ k, k < e → I3 (hist k) ∧ (∀ i, k ≤ i → i < e → hist k 37 ≤ hist i 37) ∧ hist k 37 ≤ ρ 37 ∧ HR σ (2 + (pn + 10 - e + k) % 10) (hist k) ∧ (∀ i, i < 208 → rI μ 61 0 (208 * (2 + (f + k) % 10) + i) = nI (hist k i)) ∧ Nms σ μ (2 + (pn + 10 - e + k) % 10) (hist k)
def I6 (σ μ : Mem) : Prop := ∃ n, n ≤ 700 ∧ rI σ 7 0 0 = nI n ∧ rI μ 66 0 0 = nI n ∧ ∀ i, i < n → rI σ 6 0 i = rI μ 65 0 i ∧ (rI σ 6 0 i).toInt8.toInt32 = rI σ 6 0 i
def I7 (σ μ : Mem) : Prop := rI σ 1 0 0 = rI μ 67 0 0 ∧ ∃ n, n ≤ 160 ∧ rI σ 4 0 0 = nI n ∧ rI μ 69 0 0 = nI n ∧ ∀ i, i < n → rI σ 5 0 i = rI μ 68 0 i ∧ ∃ c, c < 65536 ∧ rI σ 5 0 i = nI c
/-- the reference, changed in what doesn't last -/
def KQQ (k _j r : Nat) : Prop := k = 60 ∨ (70 ≤ k ∧ k ≤ 80) ∨ (k = 61 ∧ 208 ≤ r ∧ r < 416)
def QTQ (μ μ2 : Mem) : Prop := (∀ k j r, ¬ KQQ k j r → rI μ2 k j r = rI μ k j r) ∧ (∀ k j r, k ≠ 10 → k ≠ 13 → k ≠ 14 → rJ μ2 k j r = rJ μ k j r)
theorem QT_rfl (μ : Mem) : QTQ μ μ := ⟨fun _ _ _ _ => rfl, fun _ _ _ _ _ _ => rfl⟩
theorem QT_tr {a b c : Mem} (h1 : QTQ a b) (h2 : QTQ b c) : QTQ a c := ⟨fun k j r h => (h2.1 k j r h).trans (h1.1 k j r h), fun k j r x y z => (h2.2 k j r x y z).trans (h1.2 k j r x y z)⟩
theorem QT_fr {K : Nat → Nat → Nat → Prop} {a b : Mem} (F : FrQ K a b) (hk : ∀ k j r, K k j r → KQQ k j r) : QTQ a b := ⟨fun k j r h => F.1 k j r (fun w => h (hk k j r w)), fun k j r _ _ _ => Fr_J F k j r⟩
theorem QT_pl {a b : Mem} (F : FrQ KPm a b) : QTQ a b := QT_fr F (fun k j r w => Or.inr (Or.inl ⟨by have := w.1; omega, by have := w.1; omega⟩))
theorem QT_60 {a : Mem} {v : Int32} : QTQ a (wI a 60 0 0 v) := QT_fr (K := fun k _ _ => k = 60) (Fr_wI rfl) (fun k j r w => Or.inl w)
theorem Nms_qt {σ μ μ2 : Mem} {j : Nat} {ρ : RwQ} (h : Nms σ μ j ρ) (q : QTQ μ μ2) : Nms σ μ2 j ρ :=
  ⟨fun r hr => by rw [q.2 11 0 r (by omega) (by omega) (by omega)]; exact h.1 r hr, fun b hb => by rw [q.2 12 0 b (by omega) (by omega) (by omega)]; exact h.2 b hb⟩
/-- the class, changed in what doesn't last: the spare hostel j, the trial, the odds, the token read -/
def KSQ (j k x _r : Nat) : Prop := (8 ≤ k ∧ k ≤ 11) ∨ ((20 ≤ k ∧ k ≤ 49) ∧ x = j) ∨ ((50 ≤ k ∧ k ≤ 57) ∧ x = 1)
def STQ (j : Nat) (σ σ2 : Mem) : Prop := (∀ k x r, ¬ KSQ j k x r → rI σ2 k x r = rI σ k x r) ∧ (∀ k x r, ¬ (k = 0 ∨ (k = 1 ∨ k = 2) ∧ x = j) → rJ σ2 k x r = rJ σ k x r) ∧ (∀ k, rP σ2 k = rP σ k)
theorem ST_rfl (j : Nat) (σ : Mem) : STQ j σ σ := ⟨fun _ _ _ _ => rfl, fun _ _ _ _ => rfl, fun _ => rfl⟩
theorem ST_tr {j : Nat} {a b c : Mem} (h1 : STQ j a b) (h2 : STQ j b c) : STQ j a c := ⟨fun k x r h => (h2.1 k x r h).trans (h1.1 k x r h), fun k x r h => (h2.2.1 k x r h).trans (h1.2.1 k x r h), fun k => (h2.2.2 k).trans (h1.2.2 k)⟩
theorem ST_G {K KJ : Nat → Nat → Nat → Prop} {j : Nat} {a b : Mem} (F : FrG K KJ a b) (hk : ∀ k x r, K k x r → KSQ j k x r) (hj : ∀ k x r, KJ k x r → (k = 0 ∨ (k = 1 ∨ k = 2) ∧ x = j)) : STQ j a b :=
  ⟨fun k x r h => F.1 k x r (fun w => h (hk k x r w)), fun k x r h => F.2.1 k x r (fun w => h (hj k x r w)), fun k => FrG_P F k⟩
theorem ST_fr {K : Nat → Nat → Nat → Prop} {j : Nat} {a b : Mem} (F : FrQ K a b) (hk : ∀ k x r, K k x r → KSQ j k x r) : STQ j a b :=
  ⟨fun k x r h => F.1 k x r (fun w => h (hk k x r w)), fun k x r _ => Fr_J F k x r, fun k => Fr_P F k⟩
theorem ST_I {j : Nat} {σ σ2 : Mem} (q : STQ j σ σ2) : FrQ (KSQ j) σ (σ2.1, σ.2) := ⟨q.1, rfl⟩
theorem HR_st {j i : Nat} {σ σ2 : Mem} {ρ : RwQ} (h : HR σ i ρ) (q : STQ j σ σ2) (hij : i ≠ j) : HR σ2 i ρ := by
  have := HR_fr (K := KSQ j) (σ2 := (σ2.1, σ.2)) h (ST_I q) (fun k r a b w => by unfold KSQ at w; omega)
  exact this
theorem Nms_st {j i : Nat} {σ σ2 μ : Mem} {ρ : RwQ} (h : Nms σ μ i ρ) (q : STQ j σ σ2) (hij : i ≠ j) : Nms σ2 μ i ρ :=
  ⟨fun r hr => by rw [q.2.1 1 i r (by omega)]; exact h.1 r hr, fun b hb => by rw [q.2.1 2 i b (by omega)]; exact h.2 b hb⟩
theorem I1_st {j : Nat} {σ σ2 : Mem} {ρ : RwQ} (h : I1 σ ρ) (q : STQ j σ σ2) (hj : j = rP σ 1) : I1 σ2 ρ := by
  obtain ⟨⟨a1, a2, a3⟩, b, c, d1, d2, d3⟩ := h
  unfold I1
  rw [q.2.2 0, q.2.2 1]
  have c2 := PC_fr (K := KSQ j) (σ2 := (σ2.1, σ.2)) c (ST_I q) (fun k r x y w => by unfold KSQ at w; omega)
  refine ⟨⟨a1, a2, a3⟩, HR_st b q (by omega), c2, ⟨fun x hx => ?_, ?_, ?_⟩⟩
  · rw [q.1 53 0 x (by unfold KSQ; omega), q.1 54 0 x (by unfold KSQ; omega)]; exact d1 x hx
  · rw [q.1 55 0 0 (by unfold KSQ; omega)]; exact d2
  · rw [q.1 56 0 0 (by unfold KSQ; omega)]; exact d3
theorem I5_st {j : Nat} {σ σ2 μ : Mem} {ρ : RwQ} (h : I5 σ μ ρ) (q : STQ j σ σ2) (hj : j < 2) : I5 σ2 μ ρ := by
  obtain ⟨e, f, pn, hist, a1, a2, a3, a4, a5, a6, a7, a8⟩ := h
  refine ⟨e, f, pn, hist, a1, a2, a3, ?_, ?_, a6, a7, fun k hk => ?_⟩
  · rw [q.1 3 0 0 (by unfold KSQ; omega)]; exact a4
  · rw [q.1 2 0 0 (by unfold KSQ; omega)]; exact a5
  · obtain ⟨d1, d2, d3, d4, d5, d6⟩ := a8 k hk
    exact ⟨d1, d2, d3, HR_st d4 q (by omega), d5, Nms_st d6 q (by omega)⟩
theorem I6_st {j : Nat} {σ σ2 μ : Mem} (h : I6 σ μ) (q : STQ j σ σ2) : I6 σ2 μ := by
  obtain ⟨n, b1, b2, b3, b4⟩ := h
  refine ⟨n, b1, ?_, b3, fun i hi => ?_⟩
  · rw [q.1 7 0 0 (by unfold KSQ; omega)]; exact b2
  · rw [q.1 6 0 i (by unfold KSQ; omega)]; exact b4 i hi
theorem I7_st {j : Nat} {σ σ2 μ : Mem} (h : I7 σ μ) (q : STQ j σ σ2) : I7 σ2 μ := by
  obtain ⟨c1, m, c2, c3, c4, c5⟩ := h
  refine ⟨?_, m, c2, ?_, c4, fun i hi => ?_⟩
  · rw [q.1 1 0 0 (by unfold KSQ; omega)]; exact c1
  · rw [q.1 4 0 0 (by unfold KSQ; omega)]; exact c3
  · rw [q.1 5 0 i (by unfold KSQ; omega)]; exact c5 i hi
/-- an answer of the class and one of the reference that agree -/
def ANQ (c : Option (Int32 ⊕ Nat)) (r : Option (Int32 × Mem)) (E : List (Nat × Nat)) (J : Mem → Prop) : Prop :=
  (∃ x, c = some (.inl x) ∧ OkQ r (fun q => q.1 = x ∧ rI q.2 60 0 0 = nI 0 ∧ J q.2)) ∨ (∃ k t, (k, t) ∈ E ∧ c = some (.inr k) ∧ OkQ r (fun q => rI q.2 60 0 0 = nI t ∧ J q.2))
/-- the same with a class that changes -/
def ANm (c : Option ((Int32 ⊕ Nat) × Mem)) (r : Option (Int32 × Mem)) (E : List (Nat × Nat)) (J : Mem → Mem → Prop) : Prop :=
  (∃ x σ2, c = some (.inl x, σ2) ∧ OkQ r (fun q => q.1 = x ∧ rI q.2 60 0 0 = nI 0 ∧ J σ2 q.2)) ∨ (∃ k t σ2, (k, t) ∈ E ∧ c = some (.inr k, σ2) ∧ OkQ r (fun q => rI q.2 60 0 0 = nI t ∧ J σ2 q.2))
theorem AN_ok {c : Option (Int32 ⊕ Nat)} {r : Option (Int32 × Mem)} {E : List (Nat × Nat)} {J : Mem → Prop} (x : Int32) (h1 : c = some (.inl x)) (h2 : OkQ r (fun q => q.1 = x ∧ rI q.2 60 0 0 = nI 0 ∧ J q.2)) : ANQ c r E J := Or.inl ⟨x, h1, h2⟩
theorem AN_no {c : Option (Int32 ⊕ Nat)} {r : Option (Int32 × Mem)} {E : List (Nat × Nat)} {J : Mem → Prop} (k t : Nat) (hE : (k, t) ∈ E) (h1 : c = some (.inr k)) (h2 : OkQ r (fun q => rI q.2 60 0 0 = nI t ∧ J q.2)) : ANQ c r E J := Or.inr ⟨k, t, hE, h1, h2⟩
theorem ix_em (p : Int32) (n : Nat) : (∃ k, k < n ∧ p = nI k) ∨ ¬ ∃ k, k < n ∧ p = nI k := Classical.em _
theorem rg_em (p : Int32) (lo hi : Nat) : (∃ k, (lo ≤ k ∧ k ≤ hi) ∧ p = nI k) ∨ ¬ ∃ k, (lo ≤ k ∧ k ≤ hi) ∧ p = nI k := Classical.em _
/-! the class's checks -/
theorem ix_no {p : Int32} {n : Nat} (hn : n < 2 ^ 31) (h : ¬ ∃ k, k < n ∧ p = nI k) : p < nI 0 ∨ ¬ p < nI n := by
  rcases pk_ix p hn with q | q | q
  · exact Or.inl q
  · refine Or.inr (fun w => ?_)
    rw [Int32.lt_iff_toInt_lt] at w
    rw [Int32.le_iff_toInt_le] at q
    omega
  · exact absurd q h
section
variable {σ μ : Mem} {ρ : RwQ}
theorem chkB_Y (h1 : I1 σ ρ) (h3 : I3 ρ) {b : Nat} (hb : b < ρ 37) : fX5_checkBooking (nI b) σ = some (.inl ()) := by
  have h17 := h3.2.2
  unfold fX5_checkBooking
  simp only [l_0]
  rw [if_neg (nI_nlt (Nat.zero_le _) (by omega)), gd_pos (by have := h1.1.1; omega), h1.2.1.1.2.2.1, if_pos (nI_lt hb (by omega))]
theorem chkB_N (h1 : I1 σ ρ) (h3 : I3 ρ) {p : Int32} (hp : ¬ ∃ b, b < ρ 37 ∧ p = nI b) : fX5_checkBooking p σ = some (.inr 3) := by
  have h17 := h3.2.2
  unfold fX5_checkBooking jX5_checkBooking_15
  simp only [l_0]
  rcases ix_no (by omega) hp with q | q
  · rw [if_pos q]
  · by_cases q0 : p < nI 0
    · rw [if_pos q0]
    · rw [if_neg q0, gd_pos (by have := h1.1.1; omega), h1.2.1.1.2.2.1, if_neg q]
theorem chkR_Y (h1 : I1 σ ρ) (h3 : I3 ρ) {r : Nat} (hr : r < ρ 4) : fX5_checkRoom (nI r) σ = some (.inl ()) := by
  have h8 := h3.1.1
  unfold fX5_checkRoom
  simp only [l_0]
  rw [if_neg (nI_nlt (Nat.zero_le _) (by omega)), gd_pos (by have := h1.1.1; omega), h1.2.1.1.1, if_pos (nI_lt hr (by omega))]
theorem chkR_N (h1 : I1 σ ρ) (h3 : I3 ρ) {p : Int32} (hp : ¬ ∃ r, r < ρ 4 ∧ p = nI r) : fX5_checkRoom p σ = some (.inr 3) := by
  have h8 := h3.1.1
  unfold fX5_checkRoom jX5_checkRoom_15
  simp only [l_0]
  rcases ix_no (by omega) hp with q | q
  · rw [if_pos q]
  · by_cases q0 : p < nI 0
    · rw [if_pos q0]
    · rw [if_neg q0, gd_pos (by have := h1.1.1; omega), h1.2.1.1.1, if_neg q]
theorem chkN_Y {n : Nat} (hn : n < 30) : fX5_checkNight (nI n) = some (.inl ()) := by
  unfold fX5_checkNight
  simp only [l_0, l_30]
  rw [if_neg (nI_nlt (Nat.zero_le _) (by omega)), if_pos (nI_lt hn (by omega))]
theorem chkN_N {p : Int32} (hp : ¬ ∃ n, n < 30 ∧ p = nI n) : fX5_checkNight p = some (.inr 3) := by
  unfold fX5_checkNight jX5_checkNight_10
  simp only [l_0, l_30]
  rcases ix_no (by omega) hp with q | q
  · rw [if_pos q]
  · by_cases q0 : p < nI 0
    · rw [if_pos q0]
    · rw [if_neg q0, if_neg q]
theorem chkBed_Y (h1 : I1 σ ρ) (h3 : I3 ρ) {r d : Nat} (hr : r < ρ 4) (hd : d < rmv ρ r 1) : fX5_checkBed (nI r) (nI d) σ = some (.inl ()) := by
  have h8 := h3.1.1
  have hwr := h3.1.2.2.2.1 r hr
  have h10 := hwr.2.1.2
  unfold fX5_checkBed
  rw [chkR_Y h1 h3 hr, Option.bind_some, Sum.elim_inl]
  simp only [l_0]
  rw [if_neg (nI_nlt (Nat.zero_le _) (by omega)), gd_pos (by have := h1.1.1; omega), gd_inb (by omega) (by omega), nI_clamp (by omega), (h1.2.1.1.2.2.2.2.2.2.2.1 r hr).2.1, if_pos (nI_lt hd (by omega))]
theorem chkBed_N (h1 : I1 σ ρ) (h3 : I3 ρ) {p1 p2 : Int32} (hp : ¬ ∃ r d, r < ρ 4 ∧ d < rmv ρ r 1 ∧ p1 = nI r ∧ p2 = nI d) : fX5_checkBed p1 p2 σ = some (.inr 3) := by
  have h8 := h3.1.1
  unfold fX5_checkBed jX5_checkBed_25
  rcases ix_em p1 (ρ 4) with ⟨r, hr, rfl⟩ | q
  · have hwr := h3.1.2.2.2.1 r hr
    have h10 := hwr.2.1.2
    have hp2 : ¬ ∃ d, d < rmv ρ r 1 ∧ p2 = nI d := fun ⟨d, d1, d2⟩ => hp ⟨r, d, hr, d1, rfl, d2⟩
    rw [chkR_Y h1 h3 hr, Option.bind_some, Sum.elim_inl]
    simp only [l_0]
    rcases ix_no (by omega) hp2 with q | q
    · rw [if_pos q]
    · by_cases q0 : p2 < nI 0
      · rw [if_pos q0]
      · rw [if_neg q0, gd_pos (by have := h1.1.1; omega), gd_inb (by omega) (by omega), nI_clamp (by omega), (h1.2.1.1.2.2.2.2.2.2.2.1 r hr).2.1, if_neg q]
  · rw [chkR_N h1 h3 q, Option.bind_some, Sum.elim_inr]
end
/-! the reference's checks -/