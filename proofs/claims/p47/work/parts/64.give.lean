/-! layer 2: beds given out: there is one for each person, and each room of a least set is used -/
theorem sumN_pos {f : Nat → Nat} : ∀ {n : Nat}, 0 < sumNQ f n → ∃ k, k < n ∧ 0 < f k := by
  intro n
  induction n with
  | zero => intro h; exact absurd h (Nat.lt_irrefl _)
  | succ n ih =>
    intro h
    have h2 : sumNQ f (n + 1) = sumNQ f n + f n := rfl
    rcases Nat.eq_zero_or_pos (f n) with q | q
    · obtain ⟨k, k1, k2⟩ := ih (by omega)
      exact ⟨k, by omega, k2⟩
    · exact ⟨n, by omega, q⟩
section
variable {ρ : RwQ} {b : Nat}
theorem stays_from {ρ : RwQ} {b : Nat} (hw : WFb ρ b) : staysQ ρ b (bkv ρ b 0) = true := by
  obtain ⟨w1, w2, -⟩ := hw
  exact decide_eq_true ⟨Nat.le_refl _, by omega⟩
theorem freeB_tk {ρ h : RwQ} {b : Nat} (hw : WFb ρ b) {x y : Nat} : freeB ρ (tkH ρ h b x) b y = if y = x then false else freeB ρ h b y := by
  by_cases hxy : y = x
  · subst hxy
    rw [if_pos rfl, Bool.eq_false_iff]
    intro q
    have h1 := freeB_iff.mp q (bkv ρ b 0) hw.1 (stays_from hw)
    unfold tkH at h1
    have e1 : (30 * y + bkv ρ b 0) / 30 = y := by have := hw.1; omega
    have e2 : (30 * y + bkv ρ b 0) % 30 = bkv ρ b 0 := by have := hw.1; omega
    rw [if_pos ⟨e1, by rw [e2]; exact stays_from hw⟩] at h1
    omega
  · rw [if_neg hxy]
    have key : ∀ n, n < 30 → tkH ρ h b x (30 * y + n) = h (30 * y + n) := fun n hn => if_neg (fun q => hxy (by have := q.1; omega))
    rw [Bool.eq_iff_iff, freeB_iff, freeB_iff]
    constructor
    · intro q n hn hs
      rw [← key n hn]; exact q n hn hs
    · intro q n hn hs
      rw [key n hn]; exact q n hn hs
theorem freeC_tk {ρ h : RwQ} {b : Nat} (hw : WFb ρ b) {x r : Nat} (hx : x % 10 < rmv ρ (x / 10) 1) (hf : freeB ρ h b x = true) (h10 : rmv ρ r 1 ≤ 10) : freeC ρ (tkH ρ h b x) b r + (if r = x / 10 then 1 else 0) = freeC ρ h b r := by
  unfold freeC
  by_cases hr : r = x / 10
  · rw [if_pos hr]
    have hxe : 10 * r + x % 10 = x := by omega
    have := sumN_up (f := fun d => b1 (freeB ρ (tkH ρ h b x) b (10 * r + d))) (g := fun d => b1 (freeB ρ h b (10 * r + d))) (n := rmv ρ r 1) (k := x % 10) (by rw [hr]; exact hx) (fun i _ hne => by
      show b1 _ = b1 _
      rw [freeB_tk hw, if_neg (by omega)])
    try dsimp only at this
    rw [hxe, hf, freeB_tk hw, if_pos rfl] at this
    rw [b1_t, b1_f] at this
    omega
  · rw [if_neg hr, Nat.add_zero]
    refine sumN_congr fun d hd => ?_
    rw [freeB_tk hw, if_neg (by omega)]
/-- what the rooms of a kind in a set have free, behind a bed's being taken -/
theorem sumK_tk {ρ h : RwQ} {b S : Nat} (hW : WF ρ) (hw : WFb ρ b) {x kd : Nat} (hx : x < 10 * ρ 4) (hx1 : x % 10 < rmv ρ (x / 10) 1) (hS : S / 2 ^ (x / 10) % 2 = 1) (hf : freeB ρ h b x = true) : sumK ρ (freeC ρ (tkH ρ h b x) b) S kd + (if rmv ρ (x / 10) 0 = kd then 1 else 0) = sumK ρ (freeC ρ h b) S kd := by
  have h10 : ∀ r, r < ρ 4 → rmv ρ r 1 ≤ 10 := fun r hr => (hW.2.2.2.1 r hr).2.1.2
  have := sumN_up (f := sumKT ρ (freeC ρ (tkH ρ h b x) b) S kd) (g := sumKT ρ (freeC ρ h b) S kd) (n := ρ 4) (k := x / 10) (by omega) (fun i hi hne => by
    unfold sumKT
    have := freeC_tk (r := i) hw hx1 hf (h10 i hi)
    rw [if_neg hne, Nat.add_zero] at this
    rw [this])
  have e := freeC_tk (r := x / 10) hw hx1 hf (h10 _ (by omega))
  rw [if_pos rfl] at e
  unfold sumK
  unfold sumKT at this ⊢
  by_cases hk : rmv ρ (x / 10) 0 = kd
  · rw [if_pos ⟨hS, hk⟩, if_pos ⟨hS, hk⟩] at this
    rw [if_pos hk]
    omega
  · rw [if_neg (fun q => hk q.2), if_neg (fun q => hk q.2)] at this
    rw [if_neg hk]
    omega
theorem ffB_pos {ρ h : RwQ} {b S kd : Nat} (hW : WF ρ) (hp : 0 < sumK ρ (freeC ρ h b) S kd) : ffB ρ h b S kd < 10 * ρ 4 := by
  obtain ⟨r, hr, h1⟩ := sumN_pos hp
  unfold sumKT at h1
  by_cases hc : S / 2 ^ r % 2 = 1 ∧ rmv ρ r 0 = kd
  · rw [if_pos hc] at h1
    obtain ⟨d, hd, h2⟩ := sumN_pos h1
    have h10 := (hW.2.2.2.1 r hr).2.1.2
    have hok : okB ρ h b S kd (10 * r + d) = true := by
      have e1 : (10 * r + d) / 10 = r := by omega
      have e2 : (10 * r + d) % 10 = d := by omega
      have hf : freeB ρ h b (10 * r + d) = true := by
        cases q : freeB ρ h b (10 * r + d)
        · rw [q] at h2; exact absurd h2 (Nat.lt_irrefl _)
        · rfl
      unfold okB
      rw [e1, e2, hf, decide_eq_true ⟨hd, hc⟩] <;> rfl
    have := fstN_lt (n := 10 * ρ 4) (i := 10 * r + d) (by omega) hok
    unfold ffB
    omega
  · rw [if_neg hc] at h1; exact absurd h1 (Nat.lt_irrefl _)
/-- the bed of the person p, in the order of giving -/
def bdN (ρ : RwQ) (b S : Nat) (h sl : RwQ) (p : Nat) : Nat := bedFor ρ (gvS ρ b S h sl p).1 b S p
theorem ffB_ok {ρ h : RwQ} {b S kd : Nat} (hx : ffB ρ h b S kd < 10 * ρ 4) : okB ρ h b S kd (ffB ρ h b S kd) = true := fstN_yes hx
theorem bedFor_ok {ρ h : RwQ} {b S p : Nat} (hx : bedFor ρ h b S p < 10 * ρ 4) : bedFor ρ h b S p % 10 < rmv ρ (bedFor ρ h b S p / 10) 1 ∧ S / 2 ^ (bedFor ρ h b S p / 10) % 2 = 1 ∧ (rmv ρ (bedFor ρ h b S p / 10) 0 = (if p < bkv ρ b 2 then 1 else 2) ∨ rmv ρ (bedFor ρ h b S p / 10) 0 = 0) ∧ freeB ρ h b (bedFor ρ h b S p) = true := by
  unfold bedFor at hx ⊢
  by_cases hf : ffB ρ h b S (if p < bkv ρ b 2 then 1 else 2) < 10 * ρ 4
  · rw [if_pos hf]
    obtain ⟨a1, a2, a3, a4⟩ := okB_rng (ffB_ok hf)
    exact ⟨a1, a2, Or.inl a3, a4⟩
  · rw [if_neg hf] at hx ⊢
    obtain ⟨a1, a2, a3, a4⟩ := okB_rng (ffB_ok hx)
    exact ⟨a1, a2, Or.inr a3, a4⟩
/-- there is a bed for each person, and enoughQ is left for the others -/
theorem give_all {ρ : RwQ} {b S : Nat} {h sl : RwQ} (hW : WF ρ) (hb : b < ρ 37) (hE : enoughQ ρ (freeC ρ h b) b S = true) : ∀ k, k ≤ prs ρ b → ((bkv ρ b 2 - k) - sumK ρ (freeC ρ (gvS ρ b S h sl k).1 b) S 1) + ((prs ρ b - (if k < bkv ρ b 2 then bkv ρ b 2 else k)) - sumK ρ (freeC ρ (gvS ρ b S h sl k).1 b) S 2) ≤ sumK ρ (freeC ρ (gvS ρ b S h sl k).1 b) S 0 ∧ (∀ p, p < k → bdN ρ b S h sl p < 10 * ρ 4) := by
  have hw := hW.2.2.2.2 b hb
  have hpe : prs ρ b = bkv ρ b 2 + bkv ρ b 3 := rfl
  intro k
  induction k with
  | zero =>
    intro _
    unfold enoughQ at hE
    have := of_decide_eq_true hE
    refine ⟨?_, fun p hp => absurd hp (Nat.not_lt_zero _)⟩
    show ((bkv ρ b 2 - 0) - sumK ρ (freeC ρ h b) S 1) + ((prs ρ b - _) - sumK ρ (freeC ρ h b) S 2) ≤ sumK ρ (freeC ρ h b) S 0
    split <;> omega
  | succ k ih =>
    intro hk
    obtain ⟨a1, a2⟩ := ih (by omega)
    have eG : gvS ρ b S h sl (k + 1) = if bedFor ρ (gvS ρ b S h sl k).1 b S k < 10 * ρ 4 then (tkH ρ (gvS ρ b S h sl k).1 b (bedFor ρ (gvS ρ b S h sl k).1 b S k), upQ (gvS ρ b S h sl k).2 (12 * b + k) (bedFor ρ (gvS ρ b S h sl k).1 b S k + 1)) else gvS ρ b S h sl k := rfl
    have hmain : ∀ x, x < 10 * ρ 4 → okB ρ (gvS ρ b S h sl k).1 b S (rmv ρ (x / 10) 0) x = true → bedFor ρ (gvS ρ b S h sl k).1 b S k = x → ∀ kd, sumK ρ (freeC ρ (gvS ρ b S h sl (k + 1)).1 b) S kd + (if rmv ρ (x / 10) 0 = kd then 1 else 0) = sumK ρ (freeC ρ (gvS ρ b S h sl k).1 b) S kd := by
      intro x hx hok he kd
      obtain ⟨o1, o2, -, o4⟩ := okB_rng hok
      rw [eG, he, if_pos hx]
      exact sumK_tk hW hw hx o1 o2 o4
    have hfin : ∀ x, x < 10 * ρ 4 → bedFor ρ (gvS ρ b S h sl k).1 b S k = x → ∀ p, p < k + 1 → bdN ρ b S h sl p < 10 * ρ 4 := by
      intro x hx he p hp
      by_cases hpk : p = k
      · subst hpk
        unfold bdN
        rw [he]; exact hx
      · exact a2 p (by omega)
    by_cases hf : ffB ρ (gvS ρ b S h sl k).1 b S (if k < bkv ρ b 2 then 1 else 2) < 10 * ρ 4
    · have he : bedFor ρ (gvS ρ b S h sl k).1 b S k = ffB ρ (gvS ρ b S h sl k).1 b S (if k < bkv ρ b 2 then 1 else 2) := if_pos hf
      have hok := ffB_ok hf
      have hkd := (okB_rng hok).2.2.1
      have hm := hmain _ hf (by rw [hkd]; exact hok) he
      rw [hkd] at hm
      have m0 := hm 0
      have m1 := hm 1
      have m2 := hm 2
      refine ⟨?_, hfin _ hf he⟩
      by_cases hkw : k < bkv ρ b 2
      · simp only [if_pos hkw] at a1 m0 m1 m2
        rw [if_neg (by omega)] at m0
        rw [if_pos (by decide)] at m1
        rw [if_neg (by omega)] at m2
        split <;> omega
      · simp only [if_neg hkw] at a1 m0 m1 m2
        rw [if_neg (by omega)] at m0
        rw [if_neg (by omega)] at m1
        rw [if_pos (by decide)] at m2
        rw [if_neg (by omega)]
        omega
    · have he : bedFor ρ (gvS ρ b S h sl k).1 b S k = ffB ρ (gvS ρ b S h sl k).1 b S 0 := if_neg hf
      have hz : sumK ρ (freeC ρ (gvS ρ b S h sl k).1 b) S (if k < bkv ρ b 2 then 1 else 2) = 0 := by
        rcases Nat.eq_zero_or_pos (sumK ρ (freeC ρ (gvS ρ b S h sl k).1 b) S (if k < bkv ρ b 2 then 1 else 2)) with q | q
        · exact q
        · exact absurd (ffB_pos hW q) hf
      have h0 : 0 < sumK ρ (freeC ρ (gvS ρ b S h sl k).1 b) S 0 := by
        by_cases hkw : k < bkv ρ b 2
        · simp only [if_pos hkw] at hz a1
          omega
        · simp only [if_neg hkw] at hz a1
          omega
      have hf0 := ffB_pos hW h0
      have hok := ffB_ok hf0
      have hkd := (okB_rng hok).2.2.1
      have hm := hmain _ hf0 (by rw [hkd]; exact hok) he
      rw [hkd] at hm
      have m0 := hm 0
      have m1 := hm 1
      have m2 := hm 2
      rw [if_pos rfl] at m0
      rw [if_neg (by omega)] at m1
      rw [if_neg (by omega)] at m2
      refine ⟨?_, hfin _ hf0 he⟩
      by_cases hkw : k < bkv ρ b 2
      · simp only [if_pos hkw] at hz a1
        split <;> omega
      · simp only [if_neg hkw] at hz a1
        rw [if_neg (by omega)]
        omega
/-- how many persons of the first k sleep in the room r -/
def usd (ρ : RwQ) (b S : Nat) (h sl : RwQ) (r k : Nat) : Nat := sumNQ (fun p => if bdN ρ b S h sl p / 10 = r then 1 else 0) k
theorem gvS_suc {ρ : RwQ} {b S : Nat} {h sl : RwQ} {k : Nat} (hk : bdN ρ b S h sl k < 10 * ρ 4) : gvS ρ b S h sl (k + 1) = (tkH ρ (gvS ρ b S h sl k).1 b (bdN ρ b S h sl k), upQ (gvS ρ b S h sl k).2 (12 * b + k) (bdN ρ b S h sl k + 1)) := if_pos hk
theorem bdN_ok {ρ : RwQ} {b S : Nat} {h sl : RwQ} {p : Nat} (hx : bdN ρ b S h sl p < 10 * ρ 4) : bdN ρ b S h sl p % 10 < rmv ρ (bdN ρ b S h sl p / 10) 1 ∧ S / 2 ^ (bdN ρ b S h sl p / 10) % 2 = 1 ∧ (rmv ρ (bdN ρ b S h sl p / 10) 0 = (if p < bkv ρ b 2 then 1 else 2) ∨ rmv ρ (bdN ρ b S h sl p / 10) 0 = 0) ∧ freeB ρ (gvS ρ b S h sl p).1 b (bdN ρ b S h sl p) = true := bedFor_ok hx
theorem usd_free {ρ : RwQ} {b S : Nat} {h sl : RwQ} (hW : WF ρ) (hb : b < ρ 37) : ∀ k, (∀ p, p < k → bdN ρ b S h sl p < 10 * ρ 4) → ∀ r, r < ρ 4 → freeC ρ (gvS ρ b S h sl k).1 b r + usd ρ b S h sl r k = freeC ρ h b r := by
  have hw := hW.2.2.2.2 b hb
  intro k
  induction k with
  | zero => intro _ r _; rfl
  | succ k ih =>
    intro hk r hr
    have a := ih (fun p hp => hk p (by omega)) r hr
    have hx := hk k (by omega)
    obtain ⟨o1, o2, -, o4⟩ := bdN_ok hx
    have h10 := (hW.2.2.2.1 r hr).2.1.2
    have e := freeC_tk (r := r) hw o1 o4 h10
    rw [gvS_suc hx]
    show freeC ρ (tkH ρ (gvS ρ b S h sl k).1 b (bdN ρ b S h sl k)) b r + (usd ρ b S h sl r k + (if bdN ρ b S h sl k / 10 = r then 1 else 0)) = _
    by_cases q : bdN ρ b S h sl k / 10 = r
    · rw [if_pos q]
      rw [if_pos q.symm] at e
      omega
    · rw [if_neg q]
      rw [if_neg (fun w => q w.symm)] at e
      omega
/-- persons by the kind of their room -/
def kdN (ρ : RwQ) (b S : Nat) (h sl : RwQ) (kd k : Nat) : Nat := sumNQ (fun p => if rmv ρ (bdN ρ b S h sl p / 10) 0 = kd then 1 else 0) k
theorem kdN_all {ρ : RwQ} {b S : Nat} {h sl : RwQ} (hW : WF ρ) : ∀ k, (∀ p, p < k → bdN ρ b S h sl p < 10 * ρ 4) → kdN ρ b S h sl 0 k + kdN ρ b S h sl 1 k + kdN ρ b S h sl 2 k = k ∧ kdN ρ b S h sl 1 k ≤ (if k < bkv ρ b 2 then k else bkv ρ b 2) ∧ kdN ρ b S h sl 2 k ≤ k - bkv ρ b 2 := by
  intro k
  induction k with
  | zero => intro _; refine ⟨rfl, Nat.zero_le _, Nat.zero_le _⟩
  | succ k ih =>
    intro hk
    obtain ⟨a1, a2, a3⟩ := ih (fun p hp => hk p (by omega))
    obtain ⟨-, -, o3, -⟩ := bdN_ok (hk k (by omega))
    have e : ∀ kd, kdN ρ b S h sl kd (k + 1) = kdN ρ b S h sl kd k + (if rmv ρ (bdN ρ b S h sl k / 10) 0 = kd then 1 else 0) := fun _ => rfl
    have e0 := e 0
    have e1 := e 1
    have e2 := e 2
    by_cases hkw : k < bkv ρ b 2
    · rw [if_pos hkw] at o3 a2
      rcases o3 with o3 | o3
      · rw [o3] at e0 e1 e2
        rw [if_neg (by omega)] at e0
        rw [if_pos rfl] at e1
        rw [if_neg (by omega)] at e2
        refine ⟨by omega, ?_, by omega⟩
        split <;> omega
      · rw [o3] at e0 e1 e2
        rw [if_pos rfl] at e0
        rw [if_neg (by omega)] at e1
        rw [if_neg (by omega)] at e2
        refine ⟨by omega, ?_, by omega⟩
        split <;> omega
    · rw [if_neg hkw] at o3 a2
      rw [if_neg (by omega)]
      rcases o3 with o3 | o3
      · rw [o3] at e0 e1 e2
        rw [if_neg (by omega)] at e0
        rw [if_neg (by omega)] at e1
        rw [if_pos rfl] at e2
        exact ⟨by omega, by omega, by omega⟩
      · rw [o3] at e0 e1 e2
        rw [if_pos rfl] at e0
        rw [if_neg (by omega)] at e1
        rw [if_neg (by omega)] at e2
        exact ⟨by omega, by omega, by omega⟩
/-- persons of a kind of rooms, counted room by room -/
theorem kdN_usd {ρ : RwQ} {b S : Nat} {h sl : RwQ} {kd : Nat} : ∀ k, (∀ p, p < k → bdN ρ b S h sl p < 10 * ρ 4) → sumNQ (fun r => if S / 2 ^ r % 2 = 1 ∧ rmv ρ r 0 = kd then usd ρ b S h sl r k else 0) (ρ 4) = kdN ρ b S h sl kd k := by
  intro k
  induction k with
  | zero =>
    intro _
    show _ = 0
    refine sumN_zero fun r hr => ?_
    show (if _ then (0 : Nat) else 0) = 0
    split <;> rfl
  | succ k ih =>
    intro hk
    have a := ih (fun p hp => hk p (by omega))
    have hx := hk k (by omega)
    obtain ⟨-, o2, -, -⟩ := bdN_ok hx
    have hs : ∀ r, usd ρ b S h sl r (k + 1) = usd ρ b S h sl r k + (if bdN ρ b S h sl k / 10 = r then 1 else 0) := fun _ => rfl
    have u := sumN_up (f := fun r => if S / 2 ^ r % 2 = 1 ∧ rmv ρ r 0 = kd then usd ρ b S h sl r (k + 1) else 0) (g := fun r => if S / 2 ^ r % 2 = 1 ∧ rmv ρ r 0 = kd then usd ρ b S h sl r k else 0) (n := ρ 4) (k := bdN ρ b S h sl k / 10) (by omega) (fun i _ hne => by
      have hs2 : usd ρ b S h sl i (k + 1) = usd ρ b S h sl i k := by rw [hs i, if_neg (fun q => hne q.symm), Nat.add_zero]
      show (if _ then _ else _) = (if _ then _ else _)
      rw [hs2])
    try dsimp only at u
    rw [a, hs, if_pos rfl] at u
    show _ = kdN ρ b S h sl kd k + (if rmv ρ (bdN ρ b S h sl k / 10) 0 = kd then 1 else 0)
    by_cases q : rmv ρ (bdN ρ b S h sl k / 10) 0 = kd
    · rw [if_pos ⟨o2, q⟩, if_pos ⟨o2, q⟩] at u
      rw [if_pos q]
      omega
    · rw [if_neg (fun w => q w.2), if_neg (fun w => q w.2)] at u
      rw [if_neg q]
      omega
end
