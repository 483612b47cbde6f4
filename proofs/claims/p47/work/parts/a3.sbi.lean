/-! p47, layer 2: a number's digits written into the buffer; the text taken out of it -/
def dec (v : Nat) : List Nat := if v < 10 then [48 + v] else if v < 100 then [48 + v / 10, 48 + v % 10] else [48 + v / 100, 48 + v / 10 % 10, 48 + v % 10]
theorem dec_len (v : Nat) : 1 ≤ (dec v).length ∧ (dec v).length ≤ 3 := by
  unfold dec
  split
  · simp
  · split <;> simp
theorem dec_f : ∀ v, v < 1000 → ∀ c, c ∈ dec v → 48 ≤ c ∧ c ≤ 57 := by
  intro v hv c hc
  unfold dec at hc
  split at hc
  · simp at hc; omega
  · split at hc
    · simp at hc; omega
    · simp at hc; omega
theorem size_h : ∀ v, v < 1000 → fJ6_stringSize_0f7a4 (nI v) = some (nI (dec v).length) := by decide +kernel
theorem neg_1 : ∀ v, v < 1000 → ((-100 : Int32) < -(nI v) ↔ v < 100) ∧ ((-9 : Int32) ≤ -(nI v) ↔ v < 10) ∧ (-(nI v)) / (100 : Int32) = -(nI (v / 100)) ∧ (-(nI (v / 100))) * (100 : Int32) - (-(nI v)) = nI (v % 100) ∧ -(-(nI v)) = nI v := by decide +kernel
theorem m1_h {p : Nat} (h : 1 ≤ p) : nI p + (-1 : Int32) = nI (p - 1) := nI_addneg (b := 1) h
section
variable {capQ : Nat} {bf : Nat → Int32} {p v : Nat}
theorem igc_a (hv : v < 100) (hp : (dec v).length ≤ p) (hc : p ≤ capQ) (hc2 : capQ ≤ 900) : jT_igc_22 capQ (nI p) bf (0 : Int32) (-(nI v)) = some (nI (p - (dec v).length), fun i => if p - (dec v).length ≤ i ∧ i < p then nI ((dec v).getD (i - (p - (dec v).length)) 0) else bf i) := by
  obtain ⟨n1, n2, n3, n4, n5Q⟩ := neg_1 v (by omega)
  have dl := dec_len v
  unfold jT_igc_22
  have e : loop (stT_igc_22 capQ) 5000 (-(nI v), nI p, bf) = some (-(nI v), nI p, bf) := by
    refine loop_st 0 (fun _ => (-(nI v), nI p, bf)) (by omega) rfl (fun k hk => by omega) ?_
    unfold stT_igc_22
    rw [if_pos (n1.mpr hv)]
  rw [e, Option.bind_some]
  try dsimp only
  rw [n5Q, gd_inb (by omega) (by omega), m1_h (by omega), gd_inb (by omega) (by omega), nI_clamp (by omega), nI_clamp (by omega)]
  unfold jT_igc_104
  by_cases h : v < 10
  · have d1 : dec v = [48 + v] := by unfold dec; rw [if_pos h]
    rw [if_pos (n2.mpr h), if_pos rfl, d1]
    refine congrArg some (Prod.ext rfl (funext fun i => ?_))
    show upd bf (p - 1) (vp_nar .byte (nI (48 + v % 10))) i = if p - 1 ≤ i ∧ i < p then nI ([48 + v].getD (i - (p - 1)) 0) else bf i
    rw [narB2 _ (by omega), Nat.mod_eq_of_lt h]
    by_cases q : i = p - 1
    · rw [q, pk_us, if_pos (by omega), Nat.sub_self]
      rfl
    · rw [pk_un q, if_neg (by omega)]
  · have d1 : dec v = [48 + v / 10, 48 + v % 10] := by unfold dec; rw [if_neg h, if_pos hv]
    rw [d1] at hp
    have hp2 : 2 ≤ p := hp
    rw [if_neg (fun z => h (n2.mp z)), m1_h (by omega), gd_inb (by omega) (by omega), nI_clamp (by omega), if_pos rfl, d1]
    refine congrArg some (Prod.ext (congrArg nI (by show p - 1 - 1 = p - 2; omega)) (funext fun i => ?_))
    show upd (upd bf (p - 1) (vp_nar .byte (nI (48 + v % 10)))) (p - 1 - 1) (vp_nar .byte (nI (48 + v / 10))) i = if p - 2 ≤ i ∧ i < p then nI ([48 + v / 10, 48 + v % 10].getD (i - (p - 2)) 0) else bf i
    rw [narB2 _ (by omega), narB2 _ (by omega)]
    by_cases q : i = p - 1 - 1
    · rw [q, pk_us, if_pos (by omega), show p - 1 - 1 - (p - 2) = 0 by omega]
      rfl
    · rw [pk_un q]
      by_cases q2 : i = p - 1
      · rw [q2, pk_us, if_pos (by omega), show p - 1 - (p - 2) = 1 by omega]
        rfl
      · rw [pk_un q2, if_neg (by omega)]
theorem igc_h (hv : v < 1000) (hp : (dec v).length ≤ p) (hc : p ≤ capQ) (hc2 : capQ ≤ 900) : fT_igc (nI v) (nI p) capQ bf = some (nI (p - (dec v).length), fun i => if p - (dec v).length ≤ i ∧ i < p then nI ((dec v).getD (i - (p - (dec v).length)) 0) else bf i) := by
  obtain ⟨n1, n2, n3, n4, n5Q⟩ := neg_1 v hv
  unfold fT_igc jT_igc_12
  have h0 : (0 : Int32) ≤ nI v := (nI_leI (a := 0) (by omega) (by omega)).mpr (by omega)
  rw [if_pos h0, if_neg (fun z => z rfl)]
  by_cases h : v < 100
  · exact igc_a h hp hc hc2
  · have dl : dec v = [48 + v / 100, 48 + v / 10 % 10, 48 + v % 10] := by
      unfold dec
      rw [if_neg (by omega), if_neg h]
    rw [dl] at hp ⊢
    have hp3 : 3 ≤ p := hp
    have hw : dec (v / 100) = [48 + v / 100] := by unfold dec; rw [if_pos (by omega)]
    have ha := igc_a (v := v / 100) (p := p - 2) (capQ := capQ) (bf := upd (upd bf (p - 1) (nI (48 + v % 10))) (p - 2) (nI (48 + v / 10 % 10))) (by omega) (by rw [hw]; show 1 ≤ _; omega) (by omega) hc2
    obtain ⟨k1, k2, k3, k4, k5⟩ := neg_1 (v / 100) (by omega)
    have e : loop (stT_igc_22 capQ) 5000 (-(nI v), nI p, bf) = some (-(nI (v / 100)), nI (p - 2), upd (upd bf (p - 1) (nI (48 + v % 10))) (p - 2) (nI (48 + v / 10 % 10))) := by
      refine loop_st 1 (fun k => if k = 0 then (-(nI v), nI p, bf) else (-(nI (v / 100)), nI (p - 2), upd (upd bf (p - 1) (nI (48 + v % 10))) (p - 2) (nI (48 + v / 10 % 10)))) (by omega) rfl (fun k hk => ?_) ?_
      · have hk0 : k = 0 := by omega
        subst hk0
        rw [if_pos rfl, if_neg (by omega)]
        unfold stT_igc_22
        try dsimp only
        rw [if_neg (fun z => h (n1.mp z)), n3, n4, gd_inb (by omega) (by omega), m1_h (by omega), gd_inb (by omega) (by omega), m1_h (by omega), gd_inb (by omega) (by omega), nI_clamp (by omega), nI_clamp (by omega), nI_clamp (by omega)]
        have a1 : vp_nar .byte (Int32.ofNat (48 + v % 100 % 10)) = nI (48 + v % 10) := by
          rw [show v % 100 % 10 = v % 10 by omega]
          exact narB2 _ (by omega)
        have a2 : vp_nar .byte (Int32.ofNat (48 + v % 100 / 10)) = nI (48 + v / 10 % 10) := by
          rw [show v % 100 / 10 = v / 10 % 10 by omega]
          exact narB2 _ (by omega)
        rw [a1, a2, show p - 1 - 1 = p - 2 by omega]
      · rw [if_neg (by omega)]
        unfold stT_igc_22
        try dsimp only
        rw [if_pos (k1.mpr (by omega))]
    have e2 : loop (stT_igc_22 capQ) 5000 (-(nI (v / 100)), nI (p - 2), upd (upd bf (p - 1) (nI (48 + v % 10))) (p - 2) (nI (48 + v / 10 % 10))) = some (-(nI (v / 100)), nI (p - 2), upd (upd bf (p - 1) (nI (48 + v % 10))) (p - 2) (nI (48 + v / 10 % 10))) := by
      refine loop_st 0 (fun _ => (-(nI (v / 100)), nI (p - 2), upd (upd bf (p - 1) (nI (48 + v % 10))) (p - 2) (nI (48 + v / 10 % 10)))) (by omega) rfl (fun k hk => by omega) ?_
      unfold stT_igc_22
      try dsimp only
      rw [if_pos (k1.mpr (by omega))]
    unfold jT_igc_22 at ha ⊢
    rw [e]
    rw [e2] at ha
    refine ha.trans ?_
    rw [hw]
    refine congrArg some (Prod.ext (congrArg nI (by show p - 2 - 1 = p - 3; omega)) (funext fun i => ?_))
    show (if p - 2 - 1 ≤ i ∧ i < p - 2 then nI ([48 + v / 100].getD (i - (p - 2 - 1)) 0) else upd (upd bf (p - 1) (nI (48 + v % 10))) (p - 2) (nI (48 + v / 10 % 10)) i) = if p - 3 ≤ i ∧ i < p then nI ([48 + v / 100, 48 + v / 10 % 10, 48 + v % 10].getD (i - (p - 3)) 0) else bf i
    by_cases q : i = p - 3
    · rw [if_pos (by omega), if_pos (by omega), q, show p - 3 - (p - 2 - 1) = 0 by omega, Nat.sub_self]
      rfl
    · rw [if_neg (by omega)]
      by_cases q2 : i = p - 2
      · rw [q2, pk_us, if_pos (by omega), show p - 2 - (p - 3) = 1 by omega]
        rfl
      · rw [pk_un q2]
        by_cases q3 : i = p - 1
        · rw [q3, pk_us, if_pos (by omega), show p - 1 - (p - 3) = 2 by omega]
          rfl
        · rw [pk_un q3, if_neg (by omega)]
end
section
variable {capQ : Nat} {bf : Nat → Int32} {cn : Int32} {ls : List Nat}
theorem sbI_h (H : SBr capQ bf cn ls) {v : Nat} (hv : v < 1000) (hl : ls.length + 3 ≤ 440) : OkQ (fT_sbI (nI v) capQ bf cn) (fun r => SBr r.1 r.2.1 r.2.2 (ls ++ dec v)) := by
  have hcn := H.1
  have dl := dec_len v
  unfold fT_sbI fT_sbI0
  rw [size_h v hv, Option.bind_some]
  obtain ⟨⟨cap2, bf2⟩, e, H2, hle⟩ := sbEns_h H (n := ls.length + (dec v).length) (by omega)
  have e2 : fT_sbEns (cn + nI (dec v).length) capQ bf cn = some (cap2, bf2) := by rw [hcn]; rw [hcn] at e; exact (congrArg (fun z => fT_sbEns z capQ bf (nI ls.length)) (nI_add ls.length (dec v).length)).trans e
  try dsimp only at H2 hle
  have hc2 := H2.2.2.2.1
  rw [e2, Option.bind_some]
  try dsimp only
  rw [sbLat_h, Option.bind_some, if_neg (by decide), hcn, nI_add, igc_h hv (by omega) hle hc2, Option.bind_some]
  unfold jT_sbI0_48
  rw [Option.bind_some]
  refine Ok_some ?_
  show SBr cap2 (fun i => if ls.length + (dec v).length - (dec v).length ≤ i ∧ i < ls.length + (dec v).length then nI ((dec v).getD (i - (ls.length + (dec v).length - (dec v).length)) 0) else bf2 i) (nI ls.length + nI (dec v).length) (ls ++ dec v)
  rw [nI_add, Nat.add_sub_cancel]
  refine SBr_put H2 (fun c hc => by have := dec_f v hv c hc; omega) hle (by omega) (fun i hi => if_neg (by omega)) (fun i hi => ?_) (fun i hi => if_neg (by omega))
  show (if _ then _ else _) = _
  rw [if_pos (by omega), Nat.add_sub_cancel_left]
theorem sbIn_h : OkQ fT_sbIn (fun r => SBr r.1 r.2 (nI 0) []) := by
  unfold fT_sbIn fT_sbIn0
  rw [if_neg (by decide), gd_pos (by decide), gd_pos (by decide), Option.bind_some]
  refine Ok_some ⟨rfl, by simp, by simp, ?_, fun i hi => ⟨0, by omega, rfl⟩, fun i hi => absurd hi (by simp)⟩
  show (16 : Int32).toNatClampNeg ≤ 900
  decide
/-- the string that is made of it -/
def TXr (N : Nat) (f : Nat → Int32) (ls : List Nat) : Prop := N = ls.length ∧ ls.length ≤ 440 ∧ (∀ i, i < ls.length → f i = nI (ls.getD i 0))
theorem sbStr_h (H : SBr capQ bf cn ls) : OkQ (fT_sbStr capQ bf cn) (fun r => TXr r.1 r.2 ls) := by
  obtain ⟨h1, h2, h3, h4, h5, h6⟩ := H
  unfold fT_sbStr fT_snIn fT_snIn0
  rw [show fT_sbVal capQ bf cn = some () from rfl, Option.bind_some, show fT_sbLn capQ bf cn = some cn from rfl, Option.bind_some, sbLat_h, Option.bind_some, if_neg (by decide)]
  unfold fT_cpR
  rw [if_neg (fun z => z rfl), h1]
  by_cases h : ls.length = capQ
  · have e : nI ls.length = Int32.ofNat capQ := congrArg nI h
    rw [if_pos e, gd_pos (fun i hi => by
      obtain ⟨c, c1, c2⟩ := h5 i hi
      rw [c2]
      exact fitB c c1), gd_pos (by omega)]
    exact Ok_some ⟨h.symm, h3, h6⟩
  · have e : ¬ nI ls.length = Int32.ofNat capQ := nI_ne (by omega) (by omega) h
    rw [if_neg e]
    unfold jT_cpR_10 fT_cpRb
    have e0 : fJ7_checkLength_df160 (0 : Int32) (nI ls.length) = some () := by
      unfold fJ7_checkLength_df160
      exact if_pos ((nI_leI (a := 0) (by omega) (by omega)).mpr (by omega))
    rw [e0, Option.bind_some]
    have e1 : nI ls.length - (0 : Int32) = nI ls.length := pk_sub (b := 0) (by omega)
    have e2 : Int32.ofNat capQ - (0 : Int32) = nI capQ := pk_sub (b := 0) (by omega)
    rw [e1, e2]
    have e3 : (if nI ls.length < nI capQ then nI ls.length else nI capQ) = nI ls.length := if_pos ((nI_ltI (by omega) (by omega)).mpr (by omega))
    rw [e3]
    show OkQ (((((gd (¬ nI ls.length < nI 0) (gd ((nI ls.length).toNatClampNeg ≤ 2000) (gd (¬ (0 : Int32) < 0) (gd (¬ nI ls.length < nI 0) (gd (¬ (0 : Int32) < 0) (gd (0 + (nI ls.length).toNatClampNeg ≤ capQ) (gd (0 + (nI ls.length).toNatClampNeg ≤ (nI ls.length).toNatClampNeg) (gd (∀ i, i < (nI ls.length).toNatClampNeg → fits .byte (.int (bf (0 + i))) = true) (some ((nI ls.length).toNatClampNeg, va_cpy bf (fun _ => 0) 0 0 (nI ls.length).toNatClampNeg)))))))))).bind _).bind _).bind _).bind _) _
    rw [nI_clamp (by omega), gd_pos (nlt0 (by omega)), gd_pos (by omega), gd_pos (by decide), gd_pos (nlt0 (by omega)), gd_pos (by decide), gd_pos (by omega), gd_pos (by omega), gd_pos (fun i hi => by
      obtain ⟨c, c1, c2⟩ := h5 (0 + i) (by omega)
      rw [c2]
      exact fitB c c1), Option.bind_some, Option.bind_some, Option.bind_some, Option.bind_some]
    refine Ok_some ⟨rfl, h3, fun i hi => ?_⟩
    show va_cpy bf (fun _ => 0) 0 0 ls.length i = _
    rw [pk_cpy_in (by omega) (by omega), show 0 + (i - 0) = i by omega]
    exact h6 i hi
end
