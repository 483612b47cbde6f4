/-! layer 2: the row of numbers (208 of them), as whole numbers -/
abbrev RwQ : Type := Nat → Nat
def upQ (ρ : RwQ) (k v : Nat) : RwQ := fun i => if i = k then v else ρ i
theorem up_s (ρ : RwQ) (k v : Nat) : upQ ρ k v k = v := if_pos rfl
theorem up_n {ρ : RwQ} {k v i : Nat} (h : i ≠ k) : upQ ρ k v i = ρ i := if_neg h
def rmv (ρ : RwQ) (r w : Nat) : Nat := ρ (5 + 4 * r + w)
def bkv (ρ : RwQ) (b w : Nat) : Nat := ρ (38 + 9 * b + w)
def lstQ (ρ : RwQ) (k : Nat) : Nat := ρ (192 + k)
def prs (ρ : RwQ) (b : Nat) : Nat := bkv ρ b 2 + bkv ρ b 3
def staysQ (ρ : RwQ) (b n : Nat) : Bool := decide (bkv ρ b 0 ≤ n ∧ n < bkv ρ b 0 + bkv ρ b 1)
def allB (ρ : RwQ) : Nat := sumNQ (fun r => rmv ρ r 1) (ρ 4)
def bkdT (ρ : RwQ) (n b : Nat) : Nat := if bkv ρ b 8 = 1 ∧ staysQ ρ b n = true then prs ρ b else 0
def bkd (ρ : RwQ) (n : Nat) : Nat := sumNQ (bkdT ρ n) (ρ 37)
def most (ρ : RwQ) : Nat := allB ρ * (100 + ρ 0) / 100
/-- a night in which the group finds no room -/
def capQ (ρ : RwQ) (b n : Nat) : Bool := staysQ ρ b n && decide (most ρ < bkd ρ n + prs ρ b)
def canA (ρ : RwQ) (b : Nat) : Bool := decide (fstN (capQ ρ b) 30 = 30)
theorem canA_cap {ρ : RwQ} {b : Nat} : canA ρ b = true ↔ fstN (capQ ρ b) 30 = 30 := by
  unfold canA
  rw [decide_eq_true_iff]
def setBQ (ρ : RwQ) (b w v : Nat) : RwQ := upQ ρ (38 + 9 * b + w) v
def wtsQ (ρ : RwQ) (b : Nat) : RwQ := upQ (upQ ρ (192 + ρ 191) b) 191 (ρ 191 + 1)
def cms (ρ : RwQ) (b : Nat) : RwQ := if canA ρ b = true then setBQ ρ b 8 1 else wtsQ ρ b
def layB (ρ : RwQ) (f n w m a c : Nat) : RwQ :=
  upQ (setBQ (setBQ (setBQ (setBQ (setBQ (setBQ (setBQ (setBQ (setBQ ρ (ρ 37) 0 f) (ρ 37) 1 n) (ρ 37) 2 w) (ρ 37) 3 m) (ρ 37) 4 a) (ρ 37) 5 c) (ρ 37) 6 0) (ρ 37) 7 0) (ρ 37) 8 0) 37 (ρ 37 + 1)
/-- the list gone through: the row and how many are left, behind k places -/
def gtS (ρ : RwQ) : Nat → RwQ × Nat
  | 0 => (ρ, 0)
  | k + 1 => if canA (gtS ρ k).1 ((gtS ρ k).1 (192 + k)) = true then (setBQ (gtS ρ k).1 ((gtS ρ k).1 (192 + k)) 8 1, (gtS ρ k).2) else (upQ (gtS ρ k).1 (192 + (gtS ρ k).2) ((gtS ρ k).1 (192 + k)), (gtS ρ k).2 + 1)
def gtR (ρ : RwQ) : RwQ := upQ (gtS ρ (ρ 191)).1 191 (gtS ρ (ρ 191)).2
def gtN (ρ : RwQ) : Nat := ρ 191 - (gtS ρ (ρ 191)).2
/-- a booking taken out of the list -/
def dqS (ρ : RwQ) (b : Nat) : Nat → RwQ × Nat
  | 0 => (ρ, 0)
  | k + 1 => if (dqS ρ b k).1 (192 + k) = b then dqS ρ b k else (upQ (dqS ρ b k).1 (192 + (dqS ρ b k).2) ((dqS ρ b k).1 (192 + k)), (dqS ρ b k).2 + 1)
def dqR (ρ : RwQ) (b : Nat) : RwQ := upQ (dqS ρ b (ρ 191)).1 191 (dqS ρ b (ρ 191)).2
/-- a cancellation but for the list's being gone through -/
def drp (ρ : RwQ) (b : Nat) : RwQ := dqR (setBQ ρ b 8 2) b
def WFr (ρ : RwQ) (r : Nat) : Prop := rmv ρ r 0 ≤ 2 ∧ (1 ≤ rmv ρ r 1 ∧ rmv ρ r 1 ≤ 10) ∧ rmv ρ r 2 ≤ 99 ∧ (1 ≤ rmv ρ r 3 ∧ rmv ρ r 3 ≤ 200)
def WFb (ρ : RwQ) (b : Nat) : Prop := bkv ρ b 0 < 30 ∧ (1 ≤ bkv ρ b 1 ∧ bkv ρ b 0 + bkv ρ b 1 ≤ 30) ∧ (bkv ρ b 2 ≤ 12 ∧ bkv ρ b 3 ≤ 12 ∧ 1 ≤ prs ρ b ∧ prs ρ b ≤ 12) ∧ bkv ρ b 4 ≤ 99 ∧ bkv ρ b 5 ≤ 100 ∧ bkv ρ b 6 ≤ 1 ∧ bkv ρ b 7 ≤ 1 ∧ bkv ρ b 8 ≤ 2
/-- sizes and bounds -/
def WF (ρ : RwQ) : Prop := ρ 4 ≤ 8 ∧ ρ 37 ≤ 17 ∧ (ρ 0 ≤ 50 ∧ ρ 1 ≤ 300 ∧ (2 ≤ ρ 2 ∧ ρ 2 ≤ 30) ∧ ρ 3 ≤ 50) ∧ (∀ r, r < ρ 4 → WFr ρ r) ∧ (∀ b, b < ρ 37 → WFb ρ b)
/-- the waiting list: rising numbers of bookings that wait -/
def WQ (ρ : RwQ) : Prop := ρ 191 ≤ ρ 37 ∧ ρ 191 ≤ 16 ∧ (∀ k, k < ρ 191 → lstQ ρ k < ρ 37 ∧ bkv ρ (lstQ ρ k) 8 = 0) ∧ (∀ i k, i < k → k < ρ 191 → lstQ ρ i < lstQ ρ k)
theorem WF_prs {ρ : RwQ} (h : WF ρ) {b : Nat} (hb : b < ρ 37) : 1 ≤ prs ρ b ∧ prs ρ b ≤ 12 := ⟨(h.2.2.2.2 b hb).2.2.1.2.2.1, (h.2.2.2.2 b hb).2.2.1.2.2.2⟩
theorem bkdT_le {ρ : RwQ} (h : WF ρ) {n b : Nat} (hb : b < ρ 37) : bkdT ρ n b ≤ 12 := by
  unfold bkdT
  split
  · exact (WF_prs h hb).2
  · omega
theorem bkd_le {ρ : RwQ} (h : WF ρ) (n : Nat) : bkd ρ n ≤ 204 := by
  have h1 := sumN_le (f := bkdT ρ n) (c := 12) (n := ρ 37) (fun b hb => bkdT_le h hb)
  have h2 := h.2.1
  unfold bkd
  omega
theorem sumN_bkd_le {ρ : RwQ} (h : WF ρ) (n : Nat) {k : Nat} (hk : k ≤ ρ 37) : sumNQ (bkdT ρ n) k ≤ 204 := Nat.le_trans (sumN_mono hk) (bkd_le h n)
theorem allB_le {ρ : RwQ} (h : WF ρ) : allB ρ ≤ 80 := by
  have h1 := sumN_le (f := fun r => rmv ρ r 1) (c := 10) (n := ρ 4) (fun r hr => (h.2.2.2.1 r hr).2.1.2)
  have h2 := h.1
  unfold allB
  omega
theorem sumN_allB_le {ρ : RwQ} (h : WF ρ) {k : Nat} (hk : k ≤ ρ 4) : sumNQ (fun r => rmv ρ r 1) k ≤ 80 := Nat.le_trans (sumN_mono hk) (allB_le h)
theorem most_le {ρ : RwQ} (h : WF ρ) : most ρ ≤ 120 := by
  have h1 := allB_le h
  have h2 := h.2.2.1.1
  unfold most
  have h3 : allB ρ * (100 + ρ 0) ≤ 80 * 150 := Nat.mul_le_mul h1 (by omega)
  omega
/-! what a row's parts are after a change elsewhere -/
theorem rmv_up {ρ : RwQ} {k v r w : Nat} (h : 5 + 4 * r + w ≠ k) : rmv (upQ ρ k v) r w = rmv ρ r w := up_n h
theorem bkv_up {ρ : RwQ} {k v b w : Nat} (h : 38 + 9 * b + w ≠ k) : bkv (upQ ρ k v) b w = bkv ρ b w := up_n h
theorem bkv_setB {ρ : RwQ} {b w v b2 w2 : Nat} (hw : w < 9) (hw2 : w2 < 9) : bkv (setBQ ρ b w v) b2 w2 = if b2 = b ∧ w2 = w then v else bkv ρ b2 w2 := by
  show (if 38 + 9 * b2 + w2 = 38 + 9 * b + w then v else ρ (38 + 9 * b2 + w2)) = _
  by_cases h : b2 = b ∧ w2 = w
  · rw [if_pos h, if_pos (by omega)]
  · rw [if_neg h, if_neg (by omega)] <;> rfl
theorem setB_lo {ρ : RwQ} {b w v k : Nat} (h : k < 38) : setBQ ρ b w v k = ρ k := up_n (by omega)
theorem setB_hi {ρ : RwQ} {b w v k : Nat} (hb : b < 17) (hw : w < 9) (h : 191 ≤ k) : setBQ ρ b w v k = ρ k := up_n (by omega)
theorem rmv_setB {ρ : RwQ} {b w v r w2 : Nat} (hr : r < 8) (hw : w2 < 4) : rmv (setBQ ρ b w v) r w2 = rmv ρ r w2 := setB_lo (by omega)
/-- two rows alike but for states and list -/
def SameQ (ρ ρ2 : RwQ) : Prop := (∀ k, k < 38 → ρ2 k = ρ k) ∧ (∀ b w, b < 17 → w < 8 → bkv ρ2 b w = bkv ρ b w)
theorem Same_rfl (ρ : RwQ) : SameQ ρ ρ := ⟨fun _ _ => rfl, fun _ _ _ _ => rfl⟩
theorem Same_tr {a b c : RwQ} (h1 : SameQ a b) (h2 : SameQ b c) : SameQ a c := ⟨fun k hk => (h2.1 k hk).trans (h1.1 k hk), fun x w hx hw => (h2.2 x w hx hw).trans (h1.2 x w hx hw)⟩
theorem Same_sy {a b : RwQ} (h : SameQ a b) : SameQ b a := ⟨fun k hk => (h.1 k hk).symm, fun x w hx hw => (h.2 x w hx hw).symm⟩
theorem Same_st {ρ : RwQ} {b v : Nat} (hb : b < 17) : SameQ ρ (setBQ ρ b 8 v) := ⟨fun k hk => setB_lo hk, fun b2 w hb2 hw => by rw [bkv_setB (by omega) (by omega), if_neg (by omega)]⟩
theorem Same_hi {ρ : RwQ} {k v : Nat} (hk : 191 ≤ k) : SameQ ρ (upQ ρ k v) := ⟨fun i hi => up_n (by omega), fun b w hb hw => bkv_up (by omega)⟩
theorem Same_rmv {a b : RwQ} (h : SameQ a b) {r w : Nat} (hr : r < 8) (hw : w < 4) : rmv b r w = rmv a r w := h.1 _ (by omega)
theorem Same_prs {a b : RwQ} (h : SameQ a b) {x : Nat} (hx : x < 17) : prs b x = prs a x := by
  unfold prs
  rw [h.2 x 2 hx (by omega), h.2 x 3 hx (by omega)]
theorem Same_stays {a b : RwQ} (h : SameQ a b) {x : Nat} (hx : x < 17) (n : Nat) : staysQ b x n = staysQ a x n := by
  unfold staysQ
  rw [h.2 x 0 hx (by omega), h.2 x 1 hx (by omega)]
theorem Same_allB {a b : RwQ} (h : SameQ a b) (h8 : a 4 ≤ 8) : allB b = allB a := by
  unfold allB
  rw [h.1 4 (by omega)]
  exact sumN_congr fun r hr => Same_rmv h (by omega) (by omega)
theorem Same_most {a b : RwQ} (h : SameQ a b) (h8 : a 4 ≤ 8) : most b = most a := by
  unfold most
  rw [Same_allB h h8, h.1 0 (by omega)]
theorem WF_same {a b : RwQ} (h : SameQ a b) (hw : WF a) (hs : ∀ x, x < a 37 → bkv b x 8 ≤ 2) : WF b := by
  obtain ⟨w1, w2, w3, w4, w5⟩ := hw
  refine ⟨by rw [h.1 4 (by omega)]; exact w1, by rw [h.1 37 (by omega)]; exact w2, ?_, ?_, ?_⟩
  · rw [h.1 0 (by omega), h.1 1 (by omega), h.1 2 (by omega), h.1 3 (by omega)]; exact w3
  · intro r hr
    rw [h.1 4 (by omega)] at hr
    have q := w4 r hr
    unfold WFr at q ⊢
    rw [Same_rmv h (by omega) (by omega), Same_rmv h (by omega) (by omega), Same_rmv h (by omega) (by omega), Same_rmv h (by omega) (by omega)]
    exact q
  · intro x hx
    rw [h.1 37 (by omega)] at hx
    have q := w5 x hx
    have q8 := hs x hx
    unfold WFb at q ⊢
    rw [Same_prs h (by omega), h.2 x 0 (by omega) (by omega), h.2 x 1 (by omega) (by omega), h.2 x 2 (by omega) (by omega), h.2 x 3 (by omega) (by omega), h.2 x 4 (by omega) (by omega), h.2 x 5 (by omega) (by omega), h.2 x 6 (by omega) (by omega), h.2 x 7 (by omega) (by omega)]
    exact ⟨q.1, q.2.1, q.2.2.1, q.2.2.2.1, q.2.2.2.2.1, q.2.2.2.2.2.1, q.2.2.2.2.2.2.1, q8⟩
theorem WF_st {ρ : RwQ} (h : WF ρ) {b v : Nat} (hb : b < 17) (hv : v ≤ 2) : WF (setBQ ρ b 8 v) := by
  refine WF_same (Same_st hb) h ?_
  intro x hx
  rw [bkv_setB (by omega) (by omega)]
  split
  · exact hv
  · exact (h.2.2.2.2 x hx).2.2.2.2.2.2.2
theorem WF_hi {ρ : RwQ} (h : WF ρ) {k v : Nat} (hk : 191 ≤ k) : WF (upQ ρ k v) := by
  refine WF_same (Same_hi hk) h ?_
  intro x hx
  have := h.2.1
  rw [bkv_up (by omega)]
  exact (h.2.2.2.2 x hx).2.2.2.2.2.2.2
/-- a state changes: the persons of a night -/
theorem bkdT_st {ρ : RwQ} {b v n x : Nat} (hb : b < 17) (hx : x < 17) : bkdT (setBQ ρ b 8 v) n x = if x = b then (if v = 1 ∧ staysQ ρ b n = true then prs ρ b else 0) else bkdT ρ n x := by
  unfold bkdT
  have e : bkv (setBQ ρ b 8 v) x 8 = if x = b then v else bkv ρ x 8 := by
    rw [bkv_setB (by omega) (by omega)]
    by_cases h : x = b <;> simp [h]
  rw [Same_stays (Same_st hb) hx, Same_prs (Same_st hb) hx, e]
  by_cases h : x = b
  · subst h; simp
  · simp [h]
theorem bkd_st {ρ : RwQ} {b v n : Nat} (hb : b < ρ 37) (h17 : ρ 37 ≤ 17) : bkd (setBQ ρ b 8 v) n + bkdT ρ n b = bkd ρ n + (if v = 1 ∧ staysQ ρ b n = true then prs ρ b else 0) := by
  have h := sumN_up (f := bkdT (setBQ ρ b 8 v) n) (g := bkdT ρ n) (n := ρ 37) (k := b) hb (fun i hi hne => by rw [bkdT_st (by omega) (by omega), if_neg hne])
  rw [bkdT_st (by omega) (by omega), if_pos rfl] at h
  have e : bkd (setBQ ρ b 8 v) n = sumNQ (bkdT (setBQ ρ b 8 v) n) (ρ 37) := by unfold bkd; rw [setB_lo (by omega)]
  rw [e]
  exact h
theorem bkd_hi {ρ : RwQ} {k v n : Nat} (hk : 191 ≤ k) (h17 : ρ 37 ≤ 17) : bkd (upQ ρ k v) n = bkd ρ n := by
  unfold bkd
  rw [up_n (by omega)]
  refine sumN_congr fun x hx => ?_
  unfold bkdT
  rw [Same_stays (Same_hi hk) (by omega), Same_prs (Same_hi hk) (by omega), bkv_up (by omega)]
