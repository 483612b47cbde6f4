/-! p47, layer 2: the loop over the statements; the row that is read -/
def wdV : List Nat := [111, 118, 101, 114]
def wdW : List Nat := [119, 97, 108, 107]
def wdO2 : List Nat := [111, 102, 102, 101, 114]
theorem wdV_ok : wdO wdV ∧ wdO wdW ∧ wdO wdO2 := by unfold wdO; decide +kernel
theorem wd_tx : wdR.map (fun l => l - 96) = txW 0 ∧ wdB.map (fun l => l - 96) = txW 4 ∧ wdV.map (fun l => l - 96) = txW 8 ∧ wdW.map (fun l => l - 96) = txW 9 ∧ wdO2.map (fun l => l - 96) = txW 10 := by decide +kernel
theorem tx_ne : ∀ i, i < 11 → ∀ k, k < 11 → (txW i = txW k ↔ i = k) := by decide +kernel
section
variable {σ σ2 : Mem} {j : Nat} {ls w q r : List Nat} {ρ ρ2 : RwQ} {c v k : Nat}
def ST1 (j : Nat) (ls r : List Nat) (ρ : RwQ) (q : List Nat) (ρ2 : RwQ) : Prop := ∀ σ k, k < 700 → LD1 σ j ls r ρ → ∃ σ2, stX2_read_15 j (nI k, σ) = some (.inl (nI (k + 1), σ2)) ∧ LD1 σ2 j ls q ρ2 ∧ FK j σ σ2
theorem fin_A {cc : Option (Int32 × Mem)} (ha : asc ls) (h : SA cc σ j ls q ρ2) (hq : nbH q) (k : Nat) (a : Mem) : ∃ σ2, (cc.bind fun q => jX2_read_160 (nI k, a) q.1 q.2) = some (.inl (nI (k + 1), σ2)) ∧ LD1 σ2 j ls q ρ2 ∧ FK j σ σ2 := by
  obtain ⟨s1, h1, ⟨h2, h3, h4, h5⟩, h6⟩ := h
  rw [h1, Option.bind_some]
  unfold jX2_read_160
  try dsimp only
  obtain ⟨s2, a1, a2, a3⟩ := adv_A h2 (NX_s ha hq)
  rw [if_pos (by decide), a1, Option.bind_some]
  exact ⟨s2, by rw [show nI k + (1 : Int32) = nI (k + 1) from nI_add k 1], ⟨a2, HR_FA h3 a3, h4, LDn_FA h5 a3⟩, FK_tr h6 (FA_K a3)⟩
theorem isws (ha : asc ls) (hw : wdO w) (R : Rr σ ls (w ++ 32 :: r)) {i : Nat} (hi : i < 11) (he : w.map (fun l => l - 96) = txW i) : ∀ k, k < 11 → fX2_isWord k σ = some (nI (b1 (decide (i = k)))) := by
  intro k hk
  rw [(wd_A ha R hw (by omega)).2.2 k hk, he]
  congr 3
  exact decide_eq_decide.mpr (tx_ne i hi k hk)
theorem rd_10 (ha : asc ls) (hw : wdO w) (R : Rr σ ls (w ++ 32 :: r)) : ¬ rI σ 10 0 0 = 0 := by
  rw [(wd_A ha R hw (by omega)).1]
  decide
theorem st_room {b a p kd : Nat} (ha : asc ls) (hq : nbH q) (h8 : ρ 4 < 8) (hk : kd < 3) (hb : 1 ≤ b ∧ b ≤ 10) (hag : a ≤ 99) (hp : 1 ≤ p ∧ p ≤ 200) : ST1 j ls (wdR ++ 32 :: ([97 + ρ 4] ++ 32 :: (sT (kd + 1) ++ 32 :: (dec b ++ 32 :: (dec a ++ 32 :: (dec p ++ 59 :: q)))))) ρ q (rmN ρ kd b a p) := by
  intro σ k hk7 L
  have hi := isws ha wdR_ok L.1 (i := 0) (by omega) wd_tx.1
  obtain ⟨s2, f1, f2, f3⟩ := fin_A ha (room_A ha h8 L hk hb hag hp) hq k σ
  refine ⟨s2, ?_, f2, f3⟩
  unfold stX2_read_15
  try dsimp only
  rw [if_neg (show ¬ (700 : Int32) ≤ nI k from fun z => by have := (nI_leI (a := 700) (by omega) (by omega)).mp z; omega), if_neg (rd_10 ha wdR_ok L.1), hi 0 (by omega), Option.bind_some, if_neg (by decide)]
  exact f1
theorem st_book {f n w m a c t : Nat} (ha : asc ls) (hq : nbH q) (h15 : ρ 37 ≤ 15) (hf : f ≤ 29) (hn : 1 ≤ n ∧ n ≤ 30 - f) (hw : w ≤ 12) (hm : (if w = 0 then 1 else 0) ≤ m ∧ m ≤ 12 - w) (hag : a ≤ 99) (hc : c ≤ 100) (ht : t ≤ 1) : ST1 j ls (wdB ++ 32 :: ([103, 97 + ρ 37] ++ 32 :: (dec f ++ 32 :: (dec n ++ 32 :: (dec w ++ 32 :: (dec m ++ 32 :: (dec a ++ 32 :: (dec c ++ tlB t q)))))))) ρ q (cms (lyT ρ f n w m a c t) (ρ 37)) := by
  intro σ k hk7 L
  have hi := isws ha wdB_ok L.1 (i := 4) (by omega) wd_tx.2.1
  obtain ⟨s2, f1, f2, f3⟩ := fin_A ha (book_A ha h15 L hf hn hw hm hag hc ht) hq k σ
  refine ⟨s2, ?_, f2, f3⟩
  unfold stX2_read_15
  try dsimp only
  rw [if_neg (show ¬ (700 : Int32) ≤ nI k from fun z => by have := (nI_leI (a := 700) (by omega) (by omega)).mp z; omega), if_neg (rd_10 ha wdB_ok L.1), hi 0 (by omega), Option.bind_some, if_pos (by decide), hi 4 (by omega), Option.bind_some, if_neg (by decide)]
  exact f1
theorem st_over (ha : asc ls) (hq : nbH q) (hv : v ≤ 50) : ST1 j ls (wdV ++ 32 :: (dec v ++ 59 :: q)) ρ q (upQ ρ 0 v) := by
  intro σ k hk7 L
  have hi := isws ha wdV_ok.1 L.1 (i := 8) (by omega) wd_tx.2.2.1
  obtain ⟨s2, f1, f2, f3⟩ := fin_A ha (over_A ha wdV_ok.1 L hv) hq k σ
  refine ⟨s2, ?_, f2, f3⟩
  unfold stX2_read_15
  try dsimp only
  rw [if_neg (show ¬ (700 : Int32) ≤ nI k from fun z => by have := (nI_leI (a := 700) (by omega) (by omega)).mp z; omega), if_neg (rd_10 ha wdV_ok.1 L.1), hi 0 (by omega), Option.bind_some, if_pos (by decide), hi 4 (by omega), Option.bind_some, if_pos (by decide), hi 6 (by omega), Option.bind_some, if_pos (by decide), hi 7 (by omega), Option.bind_some, if_pos (by decide), hi 8 (by omega), Option.bind_some, if_neg (by decide)]
  exact f1
theorem st_walk (ha : asc ls) (hq : nbH q) (hv : v ≤ 300) : ST1 j ls (wdW ++ 32 :: (dec v ++ 59 :: q)) ρ q (upQ ρ 1 v) := by
  intro σ k hk7 L
  have hi := isws ha wdV_ok.2.1 L.1 (i := 9) (by omega) wd_tx.2.2.2.1
  obtain ⟨s2, f1, f2, f3⟩ := fin_A ha (walk_A ha wdV_ok.2.1 L hv) hq k σ
  refine ⟨s2, ?_, f2, f3⟩
  unfold stX2_read_15
  try dsimp only
  rw [if_neg (show ¬ (700 : Int32) ≤ nI k from fun z => by have := (nI_leI (a := 700) (by omega) (by omega)).mp z; omega), if_neg (rd_10 ha wdV_ok.2.1 L.1), hi 0 (by omega), Option.bind_some, if_pos (by decide), hi 4 (by omega), Option.bind_some, if_pos (by decide), hi 6 (by omega), Option.bind_some, if_pos (by decide), hi 7 (by omega), Option.bind_some, if_pos (by decide), hi 8 (by omega), Option.bind_some, if_pos (by decide), hi 9 (by omega), Option.bind_some, if_neg (by decide)]
  exact f1
theorem st_offer {u : Nat} (ha : asc ls) (hq : nbH q) (hu : 2 ≤ u ∧ u ≤ 30) (hv : v ≤ 50) : ST1 j ls (wdO2 ++ 32 :: (dec u ++ 32 :: (dec v ++ 59 :: q))) ρ q (upQ (upQ ρ 2 u) 3 v) := by
  intro σ k hk7 L
  have hi := isws ha wdV_ok.2.2 L.1 (i := 10) (by omega) wd_tx.2.2.2.2
  have hs := offer_A ha wdV_ok.2.2 L hu hv
  obtain ⟨s2, f1, f2, f3⟩ := fin_A ha hs hq k σ
  refine ⟨s2, ?_, f2, f3⟩
  unfold stX2_read_15
  try dsimp only
  rw [if_neg (show ¬ (700 : Int32) ≤ nI k from fun z => by have := (nI_leI (a := 700) (by omega) (by omega)).mp z; omega), if_neg (rd_10 ha wdV_ok.2.2 L.1), hi 0 (by omega), Option.bind_some, if_pos (by decide), hi 4 (by omega), Option.bind_some, if_pos (by decide), hi 6 (by omega), Option.bind_some, if_pos (by decide), hi 7 (by omega), Option.bind_some, if_pos (by decide), hi 8 (by omega), Option.bind_some, if_pos (by decide), hi 9 (by omega), Option.bind_some, if_pos (by decide), hi 10 (by omega), Option.bind_some, if_neg (by decide)]
  obtain ⟨s1, e1, -⟩ := hs
  rw [e1, Option.bind_some] at f1 ⊢
  try dsimp only at f1 ⊢
  rw [if_neg (by decide)]
  exact f1
theorem st_nil (L : LD1 σ j ls [] ρ) (hk7 : k < 700) : stX2_read_15 j (nI k, σ) = some (.inr (.inl σ)) := by
  unfold stX2_read_15
  try dsimp only
  rw [if_neg (show ¬ (700 : Int32) ≤ nI k from fun z => by have := (nI_leI (a := 700) (by omega) (by omega)).mp z; omega), if_pos (show rI σ 10 0 0 = 0 from ni_A L.1)]
end
theorem loop_one {α β : Type} {step : α → Option (α ⊕ β)} {a a2 : α} (h : step a = some (.inl a2)) (m : Nat) : loop step (m + 1) a = loop step m a2 := by
  rw [loop, h]
theorem loop_end {α β : Type} {step : α → Option (α ⊕ β)} {a : α} {b : β} (h : step a = some (.inr b)) (m : Nat) : loop step (m + 1) a = some b := by
  rw [loop, h]
theorem loop_go {α β : Type} {step : α → Option (α ⊕ β)} (Inv : Nat → α → Prop) : ∀ (n : Nat), (∀ k a, k < n → Inv k a → ∃ a2, step a = some (.inl a2) ∧ Inv (k + 1) a2) → ∀ (m : Nat) (a : α), Inv 0 a → ∃ a2, Inv n a2 ∧ loop step (n + m) a = loop step m a2 := by
  intro n
  induction n with
  | zero => intro _ m a h; exact ⟨a, h, by rw [Nat.zero_add]⟩
  | succ n ih =>
    intro h m a h0
    obtain ⟨a2, i1, i2⟩ := ih (fun k a hk => h k a (by omega)) (m + 1) a h0
    obtain ⟨a3, s1, s2⟩ := h n a2 (by omega) i1
    refine ⟨a3, s2, ?_⟩
    rw [show n + 1 + m = n + (m + 1) by omega, i2]
    exact loop_one s1 m
