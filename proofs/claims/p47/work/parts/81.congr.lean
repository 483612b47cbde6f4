/-! layer 2: what the placing depends on -/
def EqP (ρ ρ2 : RwQ) : Prop := (∀ k, 1 ≤ k → k ≤ 37 → ρ2 k = ρ k) ∧ (∀ b w, b < ρ 37 → w < 8 → w ≠ 5 → bkv ρ2 b w = bkv ρ b w) ∧ ∀ b, b < ρ 37 → (bkv ρ2 b 8 = 1 ↔ bkv ρ b 8 = 1)
section
variable {ρ ρ2 : RwQ} {b : Nat}
theorem rm_c (E : EqP ρ ρ2) {r k : Nat} (hr : r < 8) (hk : k < 4) : rmv ρ2 r k = rmv ρ r k := E.1 _ (by omega) (by omega)
theorem stays_c (E : EqP ρ ρ2) (hb : b < ρ 37) (n : Nat) : staysQ ρ2 b n = staysQ ρ b n := by
  unfold staysQ; rw [E.2.1 b 0 hb (by omega) (by omega), E.2.1 b 1 hb (by omega) (by omega)]
theorem prs_c (E : EqP ρ ρ2) (hb : b < ρ 37) : prs ρ2 b = prs ρ b := by
  unfold prs; rw [E.2.1 b 2 hb (by omega) (by omega), E.2.1 b 3 hb (by omega) (by omega)]
theorem freeB_c (E : EqP ρ ρ2) (hb : b < ρ 37) (h : RwQ) (x : Nat) : freeB ρ2 h b x = freeB ρ h b x := by
  have e : bsy ρ2 h b x = bsy ρ h b x := by funext n; unfold bsy; rw [stays_c E hb]
  unfold freeB; rw [e]
theorem freeC_c (E : EqP ρ ρ2) (hb : b < ρ 37) (h : RwQ) {r : Nat} (hr : r < 8) : freeC ρ2 h b r = freeC ρ h b r := by
  unfold freeC
  rw [rm_c E hr (by omega)]
  exact sumN_congr (fun d _ => by rw [freeB_c E hb])
theorem canU_c (E : EqP ρ ρ2) (hb : b < ρ 37) {r : Nat} (hr : r < 8) : canU ρ2 b r = canU ρ b r := by
  unfold canU; rw [rm_c E hr (by omega), E.2.1 b 4 hb (by omega) (by omega)]
theorem fitR_c (E : EqP ρ ρ2) (hb : b < ρ 37) (h : RwQ) {r : Nat} (hr : r < 8) : fitR ρ2 h b r = fitR ρ h b r := by
  unfold fitR tkA
  rw [canU_c E hb hr, rm_c E hr (by omega), E.2.1 b 2 hb (by omega) (by omega), E.2.1 b 3 hb (by omega) (by omega), prs_c E hb, freeC_c E hb h hr]
theorem orS_c (E : EqP ρ ρ2) (h8 : ρ 4 ≤ 8) (hb : b < ρ 37) (h : RwQ) : ∀ k, k ≤ ρ 4 → orS ρ2 h b k = orS ρ h b k := by
  intro k
  induction k with
  | zero => intro _; rfl
  | succ k ih =>
    intro hk
    have hl := orS_le (ρ := ρ) (h := h) (b := b) k
    have e : btr ρ2 h b (orS ρ h b k) k = btr ρ h b (orS ρ h b k) k := by
      unfold btr
      rw [freeC_c E hb h (by omega), freeC_c E hb h (by omega), rm_c E (by omega) (by omega), rm_c E (by omega) (by omega)]
    show (if fitR ρ2 h b k = true ∧ btr ρ2 h b (orS ρ2 h b k) k = true then k + 1 else orS ρ2 h b k) = _
    rw [ih (by omega), e, fitR_c E hb h (by omega)]
    rfl
theorem orR_c (E : EqP ρ ρ2) (h8 : ρ 4 ≤ 8) (hb : b < ρ 37) (h : RwQ) : orR ρ2 h b = orR ρ h b := by
  unfold orR; rw [E.1 4 (by omega) (by omega)]; exact orS_c E h8 hb h _ (Nat.le_refl _)
theorem sumK_c (E : EqP ρ ρ2) (h8 : ρ 4 ≤ 8) {F F2 : Nat → Nat} (hF : ∀ r, r < 8 → F2 r = F r) (S kd : Nat) : sumK ρ2 F2 S kd = sumK ρ F S kd := by
  unfold sumK
  rw [E.1 4 (by omega) (by omega)]
  refine sumN_congr (fun r hr => ?_)
  unfold sumKT
  rw [rm_c E (by omega) (by omega), hF r (by omega)]
theorem enough_c (E : EqP ρ ρ2) (h8 : ρ 4 ≤ 8) (hb : b < ρ 37) (h : RwQ) (S : Nat) : enoughQ ρ2 (freeC ρ2 h b) b S = enoughQ ρ (freeC ρ h b) b S := by
  unfold enoughQ
  rw [sumK_c E h8 (fun r hr => freeC_c E hb h hr), sumK_c E h8 (fun r hr => freeC_c E hb h hr), sumK_c E h8 (fun r hr => freeC_c E hb h hr), E.2.1 b 2 hb (by omega) (by omega), E.2.1 b 3 hb (by omega) (by omega)]
theorem subM_c (E : EqP ρ ρ2) (h8 : ρ 4 ≤ 8) (hb : b < ρ 37) (S : Nat) : subM ρ2 b S = subM ρ b S := by
  unfold subM
  rw [E.1 4 (by omega) (by omega)]
  rw [fstN_congr (p := nsub ρ2 b S) (q := nsub ρ b S) (fun i hi => by unfold nsub; rw [canU_c E hb (by omega)])]
theorem stS_c (E : EqP ρ ρ2) (h8 : ρ 4 ≤ 8) (hb : b < ρ 37) (h : RwQ) : ∀ k, stSQ ρ2 h b k = stSQ ρ h b k := by
  intro k
  induction k with
  | zero => rfl
  | succ k ih =>
    show (if subM ρ2 b (k + 1) = true ∧ (stSQ ρ2 h b k = 0 ∨ pc (k + 1) < pc (stSQ ρ2 h b k)) ∧ enoughQ ρ2 (freeC ρ2 h b) b (k + 1) = true then k + 1 else stSQ ρ2 h b k) = _
    rw [ih, subM_c E h8 hb, enough_c E h8 hb]
    rfl
theorem ffB_c (E : EqP ρ ρ2) (h8 : ρ 4 ≤ 8) (hb : b < ρ 37) (h : RwQ) (S kd : Nat) : ffB ρ2 h b S kd = ffB ρ h b S kd := by
  unfold ffB
  rw [E.1 4 (by omega) (by omega)]
  refine fstN_congr (fun x hx => ?_)
  unfold okB
  rw [rm_c E (by omega) (by omega), rm_c E (by omega) (by omega), freeB_c E hb]
theorem bedFor_c (E : EqP ρ ρ2) (h8 : ρ 4 ≤ 8) (hb : b < ρ 37) (h : RwQ) (S p : Nat) : bedFor ρ2 h b S p = bedFor ρ h b S p := by
  unfold bedFor
  rw [ffB_c E h8 hb, ffB_c E h8 hb, E.1 4 (by omega) (by omega), E.2.1 b 2 hb (by omega) (by omega)]
theorem tkH_c (E : EqP ρ ρ2) (hb : b < ρ 37) (h : RwQ) (x : Nat) : tkH ρ2 h b x = tkH ρ h b x := by
  funext i; unfold tkH; rw [stays_c E hb]
theorem gvS_c (E : EqP ρ ρ2) (h8 : ρ 4 ≤ 8) (hb : b < ρ 37) (S : Nat) (h sl : RwQ) : ∀ k, gvS ρ2 b S h sl k = gvS ρ b S h sl k := by
  intro k
  induction k with
  | zero => rfl
  | succ k ih =>
    show (if bedFor ρ2 (gvS ρ2 b S h sl k).1 b S k < 10 * ρ2 4 then (tkH ρ2 (gvS ρ2 b S h sl k).1 b (bedFor ρ2 (gvS ρ2 b S h sl k).1 b S k), upQ (gvS ρ2 b S h sl k).2 (12 * b + k) (bedFor ρ2 (gvS ρ2 b S h sl k).1 b S k + 1)) else gvS ρ2 b S h sl k) = _
    rw [ih, bedFor_c E h8 hb, tkH_c E hb, E.1 4 (by omega) (by omega)]
    rfl
theorem setO_c (E : EqP ρ ρ2) (h8 : ρ 4 ≤ 8) (hb : b < ρ 37) (h : RwQ) : setOfQ ρ2 h b = setOfQ ρ h b := by
  unfold setOfQ stRQ
  rw [orR_c E h8 hb, E.2.1 b 6 hb (by omega) (by omega), E.1 4 (by omega) (by omega), stS_c E h8 hb]
theorem plc1_c (E : EqP ρ ρ2) (h8 : ρ 4 ≤ 8) (hb : b < ρ 37) (π : PnQ) : plc1 ρ2 b π = plc1 ρ b π := by
  unfold plc1 becOf
  rw [setO_c E h8 hb, orR_c E h8 hb, gvS_c E h8 hb, prs_c E hb]
theorem plB_c (E : EqP ρ ρ2) (h8 : ρ 4 ≤ 8) (n : Nat) (π : PnQ) : ∀ k, k ≤ ρ 37 → plB ρ2 n π k = plB ρ n π k := by
  intro k
  induction k with
  | zero => intro _; rfl
  | succ k ih =>
    intro hk
    have e : isPl ρ2 k n = isPl ρ k n := by
      unfold isPl
      rw [E.2.1 k 7 (by omega) (by omega) (by omega), E.2.1 k 0 (by omega) (by omega) (by omega)]
      exact decide_eq_decide.mpr ⟨fun ⟨x, y⟩ => ⟨(E.2.2 k (by omega)).mp x, y⟩, fun ⟨x, y⟩ => ⟨(E.2.2 k (by omega)).mpr x, y⟩⟩
    show (if isPl ρ2 k n = true then plc1 ρ2 k (plB ρ2 n π k) else plB ρ2 n π k) = _
    rw [ih (by omega), e, plc1_c E h8 (by omega)]
    rfl
theorem plN_c (E : EqP ρ ρ2) (h8 : ρ 4 ≤ 8) : ∀ n, plN ρ2 n = plN ρ n := by
  intro n
  induction n with
  | zero => rfl
  | succ n ih =>
    show plB ρ2 n (plN ρ2 n) (ρ2 37) = _
    rw [ih, E.1 37 (by omega) (by omega), plB_c E h8 n _ _ (Nat.le_refl _)]
    rfl
theorem plc_c (E : EqP ρ ρ2) (h8 : ρ 4 ≤ 8) : plc ρ2 = plc ρ := plN_c E h8 30
theorem pdB_c (E : EqP ρ ρ2) (hb : b < ρ 37) {π : PnQ} (hB : PBQ π) : pdB ρ2 π b = pdB ρ π b := by
  have e : ∀ p, pdT ρ2 π b p = pdT ρ π b p := fun p => by
    have := hB.2.2 (12 * b + p)
    unfold pdT
    rw [rm_c E (by omega) (by omega), E.2.1 b 1 hb (by omega) (by omega)]
  have e2 : pdT ρ2 π b = pdT ρ π b := funext e
  unfold pdB disc
  rw [e2, prs_c E hb, E.2.1 b 1 hb (by omega) (by omega), E.1 2 (by omega) (by omega), E.1 3 (by omega) (by omega)]
theorem wkB_c (E : EqP ρ ρ2) (hb : b < ρ 37) (π : PnQ) : wkB ρ2 π b = wkB ρ π b := by
  unfold wkB
  rw [prs_c E hb, E.2.1 b 1 hb (by omega) (by omega), E.1 1 (by omega) (by omega)]
theorem net_c (E : EqP ρ ρ2) (hW : WF ρ) : netV ρ2 = netV ρ := by
  have hB : PBQ (plc ρ) := PB_plN hW 30
  unfold netV
  rw [plc_c E hW.1, E.1 37 (by omega) (by omega), sumN_congr (f := pdB ρ2 (plc ρ)) (g := pdB ρ (plc ρ)) (fun b hb => pdB_c E hb hB), sumN_congr (f := wkB ρ2 (plc ρ)) (g := wkB ρ (plc ρ)) (fun b hb => wkB_c E hb _)]
end
