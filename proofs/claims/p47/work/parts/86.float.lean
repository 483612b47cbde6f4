/-! layer 2: doubles not below zero -/
theorem f_q : FP.Core.b64.qmin = -1074 := by decide
theorem f_x : FP.Core.b64.qmax = 971 := by decide
theorem f_t : FP.Core.b64.tails = 4503599627370496 := by decide
theorem f_e : FP.Core.b64.exps = 2048 := by decide
theorem f_p : (2 : Nat) ^ FP.Core.b64.p = 9007199254740992 := by decide
/-- not below zero, finite, the last digit's exponent at most K above the least -/
def FD (K : Nat) (d : FP.Core.Datum) : Prop := ∃ (c t : Nat), d = .fin false c (-1074 + (t : Int)) ∧ c < 9007199254740992 ∧ t ≤ K
theorem dec_hi {x t : Nat} (hx : x < 4503599627370496) (ht : t ≤ 2045) : FP.Core.decode FP.Core.b64 ((t + 1) * 4503599627370496 + x) = .fin false (4503599627370496 + x) (-1074 + (t : Int)) := by
  have e1 : FP.Core.fieldE FP.Core.b64 ((t + 1) * 4503599627370496 + x) = t + 1 := by unfold FP.Core.fieldE; rw [f_t, f_e]; omega
  have e2 : FP.Core.fieldT FP.Core.b64 ((t + 1) * 4503599627370496 + x) = x := by unfold FP.Core.fieldT; rw [f_t]; omega
  have e3 : FP.Core.fieldS FP.Core.b64 ((t + 1) * 4503599627370496 + x) = false := by
    unfold FP.Core.fieldS; rw [f_t, f_e]
    rw [show ((t + 1) * 4503599627370496 + x) / 4503599627370496 / 2048 % 2 = 0 by omega] <;> rfl
  unfold FP.Core.decode
  rw [e1, e2, e3, f_e, f_t, f_q, if_neg (by omega), if_neg (by omega)]
  congr 1
  omega
theorem dec_lo {x : Nat} (hx : x < 4503599627370496) : FP.Core.decode FP.Core.b64 x = .fin false x (-1074) := by
  have e1 : FP.Core.fieldE FP.Core.b64 x = 0 := by unfold FP.Core.fieldE; rw [f_t, f_e]; omega
  have e2 : FP.Core.fieldT FP.Core.b64 x = x := by unfold FP.Core.fieldT; rw [f_t]; omega
  have e3 : FP.Core.fieldS FP.Core.b64 x = false := by
    unfold FP.Core.fieldS; rw [f_t, f_e]
    rw [show x / 4503599627370496 / 2048 % 2 = 0 by omega] <;> rfl
  unfold FP.Core.decode
  rw [e1, e2, e3, f_e, f_q, if_neg (by omega), if_pos rfl]
theorem enc_FD {K : Nat} {d : FP.Core.Datum} (h : FD K d) (hK : K ≤ 2045) : FP.Core.encode FP.Core.b64 d < 9218868437227405312 ∧ FD K (FP.Core.decode FP.Core.b64 (FP.Core.encode FP.Core.b64 d)) := by
  obtain ⟨c, t, rfl, hc, ht⟩ := h
  unfold FP.Core.encode
  try dsimp only
  rw [f_t, f_q]
  by_cases q : c < 4503599627370496
  · rw [if_pos q]
    have : FP.Core.assemble FP.Core.b64 false 0 c = c := by unfold FP.Core.assemble; rw [f_t]; simp
    rw [this]
    exact ⟨by omega, c, 0, dec_lo q, hc, by omega⟩
  · rw [if_neg q]
    have : FP.Core.assemble FP.Core.b64 false ((-1074 + (t : Int) - -1074).toNat + 1) (c - 4503599627370496) = (t + 1) * 4503599627370496 + (c - 4503599627370496) := by
      unfold FP.Core.assemble; rw [f_t, show (-1074 + (t : Int) - -1074).toNat = t by omega]; simp
    rw [this]
    refine ⟨by omega, c, t, ?_, hc, ht⟩
    rw [dec_hi (by omega) (by omega), show 4503599627370496 + (c - 4503599627370496) = c by omega]
def FB (K : Nat) (a : UInt64) : Prop := FD K (FP.Core.decode FP.Core.b64 a.toNat)
theorem enc_FB {K : Nat} {d : FP.Core.Datum} (h : FD K d) (hK : K ≤ 2045) : FB K (.ofNat (FP.Core.encode FP.Core.b64 d)) ∧ (UInt64.ofNat (FP.Core.encode FP.Core.b64 d)).toNat < 9218868437227405312 := by
  obtain ⟨h1, h2⟩ := enc_FD h hK
  have e : (UInt64.ofNat (FP.Core.encode FP.Core.b64 d)).toNat = FP.Core.encode FP.Core.b64 d := by
    rw [UInt64.toNat_ofNat']; omega
  unfold FB
  rw [e]
  exact ⟨h2, h1⟩
theorem lead1 {A : Nat} (hA : A ≠ 0) : FP.Core.leading A 1 = (A.log2 : Int) := by
  unfold FP.Core.leading
  have : Nat.log2 1 = 0 := by decide
  try dsimp only
  rw [this, show ((A.log2 : Int) - ((0 : Nat) : Int)).toNat = A.log2 by omega, show (-((A.log2 : Int) - ((0 : Nat) : Int))).toNat = 0 by omega, if_pos (by rw [Nat.one_mul, Nat.pow_zero, Nat.mul_one]; exact Nat.log2_self_le hA)]
  omega
theorem near_le {a b M : Nat} (hb : 0 < b) (h : a < M * b) : FP.Core.nearest a b ≤ M := by
  have : a / b < M := (Nat.div_lt_iff_lt_mul hb).mpr h
  unfold FP.Core.nearest
  split
  · omega
  · split <;> omega
theorem round_FD {A K : Nat} {e : Int} {m : Nat} (hA : A < 2 ^ m) (hm : (m : Int) + e - 53 + 1074 ≤ (K : Int)) (hK : K ≤ 2040) : FD (K + 1) (FP.Core.roundRatio FP.Core.b64 false A 1 e) := by
  unfold FP.Core.roundRatio
  by_cases h0 : A = 0
  · rw [if_pos h0, f_q]
    exact ⟨0, 0, rfl, by omega, by omega⟩
  · rw [if_neg h0]
    have hlm : A.log2 < m := (Nat.log2_lt h0).mpr hA
    obtain ⟨L, hL⟩ : ∃ L, L = A.log2 := ⟨_, rfl⟩
    obtain ⟨Q, hQ⟩ : ∃ Q, Q = FP.Core.quantum FP.Core.b64 A 1 e := ⟨_, rfl⟩
    have hQ2 : Q = max (-1074) ((L : Int) + e - 52) := by
      rw [hQ]; unfold FP.Core.quantum; rw [lead1 h0, f_q, ← hL] <;> rfl
    have hl : A < 2 ^ (L + 1) := by rw [hL]; exact Nat.lt_log2_self
    rw [← hQ]
    unfold FP.Core.roundAt
    have hn : FP.Core.nearest (FP.Core.unitsNum A e Q) (FP.Core.unitsDen 1 e Q) ≤ 9007199254740992 := by
      refine near_le ?_ ?_
      · unfold FP.Core.unitsDen; rw [Nat.one_mul]; exact Nat.two_pow_pos _
      · unfold FP.Core.unitsNum FP.Core.unitsDen
        rw [Nat.one_mul]
        have h1 : A * 2 ^ (e - Q).toNat < 2 ^ (L + 1) * 2 ^ (e - Q).toNat := Nat.mul_lt_mul_of_pos_right hl (Nat.two_pow_pos _)
        have h2 : 2 ^ (L + 1) * 2 ^ (e - Q).toNat ≤ 9007199254740992 * 2 ^ (Q - e).toNat := by
          rw [← Nat.pow_add, show 9007199254740992 = 2 ^ 53 by decide, ← Nat.pow_add]
          exact Nat.pow_le_pow_right (by omega) (by omega)
        omega
    obtain ⟨t, ht⟩ : ∃ t : Nat, Q = -1074 + (t : Int) := ⟨(Q + 1074).toNat, by omega⟩
    unfold FP.Core.settle FP.Core.bound
    rw [f_p, f_x, f_t]
    by_cases hc : FP.Core.nearest (FP.Core.unitsNum A e Q) (FP.Core.unitsDen 1 e Q) < 9007199254740992
    · rw [if_pos hc, if_pos (by omega)]
      exact ⟨_, t, by rw [← ht], hc, by omega⟩
    · rw [if_neg hc, if_pos (by omega)]
      exact ⟨_, t + 1, by rw [ht]; congr 1; omega, by omega, by omega⟩
theorem FB_dadd {K : Nat} {a b : UInt64} (ha : FB K a) (hb : FB K b) (hK : K ≤ 2000) : FB (K + 2) (FP.Core.dadd a b) ∧ (FP.Core.dadd a b).toNat < 9218868437227405312 := by
  obtain ⟨c, t, e1, hc, ht⟩ := ha
  obtain ⟨d, r, e2, hd, hr⟩ := hb
  refine enc_FB ?_ (by omega)
  rw [e1, e2]
  unfold FP.Core.exactSum FP.Core.round
  try dsimp only
  obtain ⟨m, hm⟩ : ∃ m : Nat, min (-1074 + (t : Int)) (-1074 + (r : Int)) = -1074 + (m : Int) := ⟨min t r, by omega⟩
  have hv : FP.Core.sumUnits false c (-1074 + (t : Int)) false d (-1074 + (r : Int)) (-1074 + (m : Int)) = ((c * 2 ^ (t - m) + d * 2 ^ (r - m) : Nat) : Int) := by
    unfold FP.Core.sumUnits FP.Core.signed FP.Core.inUnits
    rw [show (-1074 + (t : Int) - (-1074 + (m : Int))).toNat = t - m by omega, show (-1074 + (r : Int) - (-1074 + (m : Int))).toNat = r - m by omega]
    simp
  rw [hm, hv]
  have hs : FP.Core.sumSign false false ((c * 2 ^ (t - m) + d * 2 ^ (r - m) : Nat) : Int) = false := by
    unfold FP.Core.sumSign
    split
    · rfl
    · exact decide_eq_false (by omega)
  rw [hs, Int.natAbs_natCast]
  refine round_FD (m := 54 + (K - m)) (K := K + 1) ?_ (by omega) (by omega)
  have h1 : c * 2 ^ (t - m) < 9007199254740992 * 2 ^ (K - m) := Nat.lt_of_lt_of_le (Nat.mul_lt_mul_of_pos_right hc (Nat.two_pow_pos _)) (Nat.mul_le_mul_left _ (Nat.pow_le_pow_right (by omega) (by omega)))
  have h2 : d * 2 ^ (r - m) < 9007199254740992 * 2 ^ (K - m) := Nat.lt_of_lt_of_le (Nat.mul_lt_mul_of_pos_right hd (Nat.two_pow_pos _)) (Nat.mul_le_mul_left _ (Nat.pow_le_pow_right (by omega) (by omega)))
  have h3 : 2 ^ (54 + (K - m)) = 2 * (9007199254740992 * 2 ^ (K - m)) := by
    rw [Nat.pow_add]
    omega
  omega
/-- a product -/
theorem FB_dmul {K F : Nat} {a b : UInt64} (ha : FB (1021 + K) a) (hb : FB F b) (hF : F ≤ 1021 + 100) (hK : K ≤ 900) : FB (K + F + 2) (FP.Core.dmul a b) ∧ (FP.Core.dmul a b).toNat < 9218868437227405312 := by
  obtain ⟨c, t, e1, hc, ht⟩ := ha
  obtain ⟨d, r, e2, hd, hr⟩ := hb
  refine enc_FB ?_ (by omega)
  rw [e1, e2]
  unfold FP.Core.exactProduct FP.Core.round
  try dsimp only
  rw [show (false != false) = false from rfl]
  refine round_FD (m := 106) (K := K + F + 1) ?_ (by omega) (by omega)
  have h1 : c * d < 9007199254740992 * 9007199254740992 := Nat.mul_lt_mul'' hc hd
  have h3 : (2 : Nat) ^ 106 = 9007199254740992 * 9007199254740992 := by decide
  omega
def FC (K : Nat) (a : UInt64) : Prop := FB K a ∧ a.toNat < 9218868437227405312
theorem FC_mono {K M : Nat} {a : UInt64} (h : FC K a) (hM : K ≤ M) : FC M a := by
  obtain ⟨⟨c, t, e1, hc, ht⟩, h2⟩ := h
  exact ⟨⟨c, t, e1, hc, by omega⟩, h2⟩
theorem FC_n64 {K : Nat} {a : UInt64} (h : FC K a) : a &&& 0x7fffffffffffffff ≤ 0x7ff0000000000000 := by
  rw [UInt64.le_iff_toNat_le, UInt64.toNat_and]
  have h1 : a.toNat &&& (0x7fffffffffffffff : UInt64).toNat ≤ a.toNat := Nat.and_le_left
  have h2 : (0x7ff0000000000000 : UInt64).toNat = 9218868437227405312 := by decide
  have := h.2
  omega
theorem FC_dadd {K : Nat} {a b : UInt64} (ha : FC K a) (hb : FC K b) (hK : K ≤ 2000) : FC (K + 2) (FP.Core.dadd a b) := FB_dadd ha.1 hb.1 hK
theorem FC_dmul {K F : Nat} {a b : UInt64} (ha : FC (1021 + K) a) (hb : FC F b) (hF : F ≤ 1021 + 100) (hK : K ≤ 900) : FC (K + F + 2) (FP.Core.dmul a b) := FB_dmul ha.1 hb.1 hF hK
theorem FC_0 {K : Nat} : FC K 0 := ⟨⟨0, 0, dec_lo (by decide), by omega, by omega⟩, by decide⟩
theorem near1 (c : Nat) {b : Nat} (hb : 0 < b) : FP.Core.nearest (c * b) b = c := by
  unfold FP.Core.nearest
  rw [Nat.mul_mod_left, Nat.mul_div_cancel _ hb, if_pos (by omega)]
theorem dadd0 {a : UInt64} (h : a.toNat < 9218868437227405312) : FP.Core.dadd a 0 = a := by
  unfold FP.Core.dadd FP.Core.add
  have h0 : FP.Core.decode FP.Core.b64 (0 : UInt64).toNat = .fin false 0 (-1074) := dec_lo (by decide)
  rw [h0]
  have key : FP.Core.encode FP.Core.b64 (FP.Core.round FP.Core.b64 (FP.Core.exactSum (FP.Core.decode FP.Core.b64 a.toNat) (.fin false 0 (-1074)))) = a.toNat := by
    generalize a.toNat = n at h
    by_cases hlo : n < 4503599627370496
    · rw [dec_lo hlo]
      unfold FP.Core.exactSum FP.Core.round
      try dsimp only
      have hv : FP.Core.sumUnits false n (-1074) false 0 (-1074) (min (-1074) (-1074)) = ((n : Nat) : Int) := by
        unfold FP.Core.sumUnits FP.Core.signed FP.Core.inUnits; simp
      rw [hv]
      have hs : FP.Core.sumSign false false ((n : Nat) : Int) = false := by
        unfold FP.Core.sumSign; split
        · rfl
        · exact decide_eq_false (by omega)
      rw [hs, Int.natAbs_natCast]
      have hr : FP.Core.roundRatio FP.Core.b64 false n 1 (min (-1074) (-1074)) = .fin false n (-1074) := by
        unfold FP.Core.roundRatio
        by_cases hz : n = 0
        · rw [if_pos hz, f_q, hz]
        · rw [if_neg hz]
          have hl : n.log2 < 52 := (Nat.log2_lt hz).mpr (by omega)
          have hQ : FP.Core.quantum FP.Core.b64 n 1 (min (-1074) (-1074)) = -1074 := by
            unfold FP.Core.quantum
            rw [lead1 hz, f_q, show ((FP.Core.b64.p : Int) - 1) = 52 from by decide]
            omega
          rw [hQ]
          unfold FP.Core.roundAt FP.Core.unitsNum FP.Core.unitsDen
          have := near1 n (b := 1) (by omega)
          rw [Nat.mul_one] at this
          simp only [Int.min_self, Int.sub_self, Int.toNat_zero, Nat.pow_zero, Nat.mul_one]
          rw [this]
          unfold FP.Core.settle FP.Core.bound
          rw [f_p, f_x, if_pos (by omega), if_pos (by omega)]
      rw [hr]
      unfold FP.Core.encode
      try dsimp only
      rw [f_t, if_pos hlo]
      unfold FP.Core.assemble; simp
    · obtain ⟨t, x, hx, rfl, ht⟩ : ∃ t x, x < 4503599627370496 ∧ n = (t + 1) * 4503599627370496 + x ∧ t ≤ 2045 := ⟨n / 4503599627370496 - 1, n % 4503599627370496, by omega, by omega, by omega⟩
      rw [dec_hi hx ht]
      unfold FP.Core.exactSum FP.Core.round
      try dsimp only
      obtain ⟨c, hc⟩ : ∃ c, c = 4503599627370496 + x := ⟨_, rfl⟩
      rw [← hc]
      have hmin : min (-1074 + (t : Int)) (-1074) = -1074 := by omega
      have hv : FP.Core.sumUnits false c (-1074 + (t : Int)) false 0 (-1074) (-1074) = ((c * 2 ^ t : Nat) : Int) := by
        unfold FP.Core.sumUnits FP.Core.signed FP.Core.inUnits
        rw [show (-1074 + (t : Int) - -1074).toNat = t by omega]
        simp
      rw [hmin, hv]
      have hs : FP.Core.sumSign false false ((c * 2 ^ t : Nat) : Int) = false := by
        unfold FP.Core.sumSign; split
        · rfl
        · exact decide_eq_false (by omega)
      rw [hs, Int.natAbs_natCast]
      have hp := Nat.two_pow_pos t
      have hcp : 2 ^ t ≤ c * 2 ^ t := Nat.le_mul_of_pos_left _ (by omega)
      have hz : c * 2 ^ t ≠ 0 := by omega
      have hlog : (c * 2 ^ t).log2 = 52 + t := by
        rw [Nat.log2_eq_iff hz]
        constructor
        · rw [Nat.pow_add]; exact Nat.mul_le_mul_right _ (by omega)
        · rw [show 52 + t + 1 = 53 + t by omega, Nat.pow_add]; exact Nat.mul_lt_mul_of_pos_right (by omega) hp
      have hr : FP.Core.roundRatio FP.Core.b64 false (c * 2 ^ t) 1 (-1074) = .fin false c (-1074 + (t : Int)) := by
        unfold FP.Core.roundRatio
        rw [if_neg hz]
        have hQ : FP.Core.quantum FP.Core.b64 (c * 2 ^ t) 1 (-1074) = -1074 + (t : Int) := by
          unfold FP.Core.quantum
          rw [lead1 hz, hlog, f_q, show ((FP.Core.b64.p : Int) - 1) = 52 from by decide]
          omega
        rw [hQ]
        unfold FP.Core.roundAt FP.Core.unitsNum FP.Core.unitsDen
        rw [show (-1074 - (-1074 + (t : Int))).toNat = 0 by omega, show (-1074 + (t : Int) - -1074).toNat = t by omega, Nat.pow_zero, Nat.mul_one, Nat.one_mul, near1 c hp]
        unfold FP.Core.settle FP.Core.bound
        rw [f_p, f_x, if_pos (by omega), if_pos (by omega)]
      rw [hr]
      unfold FP.Core.encode
      try dsimp only
      rw [f_t, f_q, if_neg (by omega)]
      unfold FP.Core.assemble
      rw [f_t, show (-1074 + (t : Int) - -1074).toNat = t by omega, hc]
      simp
  rw [key]
  exact UInt64.toNat_inj.mp (by rw [UInt64.toNat_ofNat']; omega)
theorem dmul0 {K : Nat} {a : UInt64} (h : FC K a) : FP.Core.dmul a 0 = 0 ∧ FP.Core.dmul 0 a = 0 := by
  obtain ⟨⟨c, t, e1, hc, ht⟩, h2⟩ := h
  have h0 : FP.Core.decode FP.Core.b64 (0 : UInt64).toNat = .fin false 0 (-1074) := dec_lo (by decide)
  have e : ∀ e, FP.Core.encode FP.Core.b64 (FP.Core.roundRatio FP.Core.b64 false 0 1 e) = 0 := fun e => by
    unfold FP.Core.roundRatio
    rw [if_pos rfl]
    unfold FP.Core.encode
    try dsimp only
    rw [f_t, if_pos (by omega)]
    unfold FP.Core.assemble; simp
  unfold FP.Core.dmul FP.Core.mul
  rw [h0, e1]
  constructor
  · unfold FP.Core.exactProduct FP.Core.round
    try dsimp only
    rw [Nat.mul_zero, show (false != false) = false from rfl, e] <;> rfl
  · unfold FP.Core.exactProduct FP.Core.round
    try dsimp only
    rw [Nat.zero_mul, show (false != false) = false from rfl, e] <;> rfl
def chkF (K : Nat) (a : UInt64) : Bool := match FP.Core.decode FP.Core.b64 a.toNat with
  | .fin false c q => decide (c < 9007199254740992 ∧ -1074 ≤ q ∧ (q + 1074).toNat ≤ K ∧ a.toNat < 9218868437227405312)
  | _ => false
theorem chkF_FC {K : Nat} {a : UInt64} (h : chkF K a = true) : FC K a := by
  unfold chkF at h
  split at h
  · rename_i c q e
    have h' := of_decide_eq_true h
    exact ⟨⟨c, (q + 1074).toNat, by rw [e, show -1074 + ((q + 1074).toNat : Int) = q by omega], h'.1, h'.2.2.1⟩, h'.2.2.2⟩
  · exact absurd h (by decide)
theorem dcmp_self' {K : Nat} {a : UInt64} (h : FC K a) : FP.Core.dcmp a a = some .eq := by
  obtain ⟨⟨c, t, e1, hc, ht⟩, h2⟩ := h
  unfold FP.Core.dcmp FP.Core.cmp
  rw [e1]
  unfold FP.Core.order
  simp
def ppN (c : Nat) : UInt64 := FP.Core.ddiv (FP.Core.i2d (Int32.ofNat c)) 4636737291354636288
theorem pp_ok : ∀ c, c < 101 → chkF 1022 (ppN c) = true ∧ chkF 1022 (FP.Core.dsub FP.Core.dconst1 (ppN c)) = true := by decide +kernel
theorem i2d_ok : ∀ k, k < 210 → chkF 1030 (FP.Core.i2d (Int32.ofNat k)) = true := by decide +kernel
theorem FC_1 : FC 1022 FP.Core.dconst1 := chkF_FC (by decide +kernel)
