/-! layer 2: doubles not below zero -/
section
open Jvm.FP.Core
theorem f_q : b64.qmin = -1074 := by decide
theorem f_x : b64.qmax = 971 := by decide
theorem f_t : b64.tails = 4503599627370496 := by decide
theorem f_e : b64.exps = 2048 := by decide
theorem f_p : (2 : Nat) ^ b64.p = 9007199254740992 := by decide
/-- not below zero, finite, the last digit's exponent at most K above the least -/
def FD (K : Nat) (d : Datum) : Prop := ∃ (c t : Nat), d = .fin false c (-1074 + (t : Int)) ∧ c < 9007199254740992 ∧ t ≤ K
theorem dec_hi {x t : Nat} (hx : x < 4503599627370496) (ht : t ≤ 2045) : decode b64 ((t + 1) * 4503599627370496 + x) = .fin false (4503599627370496 + x) (-1074 + (t : Int)) := by
  have e1 : fieldE b64 ((t + 1) * 4503599627370496 + x) = t + 1 := by unfold fieldE; rw [f_t, f_e]; omega
  have e2 : fieldT b64 ((t + 1) * 4503599627370496 + x) = x := by unfold fieldT; rw [f_t]; omega
  have e3 : fieldS b64 ((t + 1) * 4503599627370496 + x) = false := by
    unfold fieldS; rw [f_t, f_e]
    rw [show ((t + 1) * 4503599627370496 + x) / 4503599627370496 / 2048 % 2 = 0 by omega] <;> rfl
  unfold decode
  rw [e1, e2, e3, f_e, f_t, f_q, if_neg (by omega), if_neg (by omega)]
  congr 1
  omega
theorem dec_lo {x : Nat} (hx : x < 4503599627370496) : decode b64 x = .fin false x (-1074) := by
  have e1 : fieldE b64 x = 0 := by unfold fieldE; rw [f_t, f_e]; omega
  have e2 : fieldT b64 x = x := by unfold fieldT; rw [f_t]; omega
  have e3 : fieldS b64 x = false := by
    unfold fieldS; rw [f_t, f_e]
    rw [show x / 4503599627370496 / 2048 % 2 = 0 by omega] <;> rfl
  unfold decode
  rw [e1, e2, e3, f_e, f_q, if_neg (by omega), if_pos rfl]
theorem enc_FD {K : Nat} {d : Datum} (h : FD K d) (hK : K ≤ 2045) : encode b64 d < 9218868437227405312 ∧ FD K (decode b64 (encode b64 d)) := by
  obtain ⟨c, t, rfl, hc, ht⟩ := h
  unfold encode
  try dsimp only
  rw [f_t, f_q]
  by_cases q : c < 4503599627370496
  · rw [if_pos q]
    have : assemble b64 false 0 c = c := by unfold assemble; rw [f_t]; simp
    rw [this]
    exact ⟨by omega, c, 0, dec_lo q, hc, by omega⟩
  · rw [if_neg q]
    have : assemble b64 false ((-1074 + (t : Int) - -1074).toNat + 1) (c - 4503599627370496) = (t + 1) * 4503599627370496 + (c - 4503599627370496) := by
      unfold assemble; rw [f_t, show (-1074 + (t : Int) - -1074).toNat = t by omega]; simp
    rw [this]
    refine ⟨by omega, c, t, ?_, hc, ht⟩
    rw [dec_hi (by omega) (by omega), show 4503599627370496 + (c - 4503599627370496) = c by omega]
def FB (K : Nat) (a : UInt64) : Prop := FD K (decode b64 a.toNat)
theorem enc_FB {K : Nat} {d : Datum} (h : FD K d) (hK : K ≤ 2045) : FB K (.ofNat (encode b64 d)) ∧ (UInt64.ofNat (encode b64 d)).toNat < 9218868437227405312 := by
  obtain ⟨h1, h2⟩ := enc_FD h hK
  have e : (UInt64.ofNat (encode b64 d)).toNat = encode b64 d := by
    rw [UInt64.toNat_ofNat']; omega
  unfold FB
  rw [e]
  exact ⟨h2, h1⟩
theorem lead1 {A : Nat} (hA : A ≠ 0) : leading A 1 = (A.log2 : Int) := by
  unfold leading
  have : Nat.log2 1 = 0 := by decide
  try dsimp only
  rw [this, show ((A.log2 : Int) - ((0 : Nat) : Int)).toNat = A.log2 by omega, show (-((A.log2 : Int) - ((0 : Nat) : Int))).toNat = 0 by omega, if_pos (by rw [Nat.one_mul, Nat.pow_zero, Nat.mul_one]; exact Nat.log2_self_le hA)]
  omega
theorem near_le {a b M : Nat} (hb : 0 < b) (h : a < M * b) : nearest a b ≤ M := by
  have : a / b < M := (Nat.div_lt_iff_lt_mul hb).mpr h
  unfold nearest
  split
  · omega
  · split <;> omega
theorem round_FD {A K : Nat} {e : Int} {m : Nat} (hA : A < 2 ^ m) (hm : (m : Int) + e - 53 + 1074 ≤ (K : Int)) (hK : K ≤ 2040) : FD (K + 1) (roundRatio b64 false A 1 e) := by
  unfold roundRatio
  by_cases h0 : A = 0
  · rw [if_pos h0, f_q]
    exact ⟨0, 0, rfl, by omega, by omega⟩
  · rw [if_neg h0]
    have hlm : A.log2 < m := (Nat.log2_lt h0).mpr hA
    obtain ⟨L, hL⟩ : ∃ L, L = A.log2 := ⟨_, rfl⟩
    obtain ⟨Q, hQ⟩ : ∃ Q, Q = quantum b64 A 1 e := ⟨_, rfl⟩
    have hQ2 : Q = max (-1074) ((L : Int) + e - 52) := by
      rw [hQ]; unfold quantum; rw [lead1 h0, f_q, ← hL] <;> rfl
    have hl : A < 2 ^ (L + 1) := by rw [hL]; exact Nat.lt_log2_self
    rw [← hQ]
    unfold roundAt
    have hn : nearest (unitsNum A e Q) (unitsDen 1 e Q) ≤ 9007199254740992 := by
      refine near_le ?_ ?_
      · unfold unitsDen; rw [Nat.one_mul]; exact Nat.two_pow_pos _
      · unfold unitsNum unitsDen
        rw [Nat.one_mul]
        have h1 : A * 2 ^ (e - Q).toNat < 2 ^ (L + 1) * 2 ^ (e - Q).toNat := Nat.mul_lt_mul_of_pos_right hl (Nat.two_pow_pos _)
        have h2 : 2 ^ (L + 1) * 2 ^ (e - Q).toNat ≤ 9007199254740992 * 2 ^ (Q - e).toNat := by
          rw [← Nat.pow_add, show 9007199254740992 = 2 ^ 53 by decide, ← Nat.pow_add]
          exact Nat.pow_le_pow_right (by omega) (by omega)
        omega
    obtain ⟨t, ht⟩ : ∃ t : Nat, Q = -1074 + (t : Int) := ⟨(Q + 1074).toNat, by omega⟩
    unfold settle bound
    rw [f_p, f_x, f_t]
    by_cases hc : nearest (unitsNum A e Q) (unitsDen 1 e Q) < 9007199254740992
    · rw [if_pos hc, if_pos (by omega)]
      exact ⟨_, t, by rw [← ht], hc, by omega⟩
    · rw [if_neg hc, if_pos (by omega)]
      exact ⟨_, t + 1, by rw [ht]; congr 1; omega, by omega, by omega⟩
theorem FB_dadd {K : Nat} {a b : UInt64} (ha : FB K a) (hb : FB K b) (hK : K ≤ 2000) : FB (K + 2) (dadd a b) ∧ (dadd a b).toNat < 9218868437227405312 := by
  obtain ⟨c, t, e1, hc, ht⟩ := ha
  obtain ⟨d, r, e2, hd, hr⟩ := hb
  refine enc_FB ?_ (by omega)
  rw [e1, e2]
  unfold exactSum round
  try dsimp only
  obtain ⟨m, hm⟩ : ∃ m : Nat, min (-1074 + (t : Int)) (-1074 + (r : Int)) = -1074 + (m : Int) := ⟨min t r, by omega⟩
  have hv : sumUnits false c (-1074 + (t : Int)) false d (-1074 + (r : Int)) (-1074 + (m : Int)) = ((c * 2 ^ (t - m) + d * 2 ^ (r - m) : Nat) : Int) := by
    unfold sumUnits signed inUnits
    rw [show (-1074 + (t : Int) - (-1074 + (m : Int))).toNat = t - m by omega, show (-1074 + (r : Int) - (-1074 + (m : Int))).toNat = r - m by omega]
    simp
  rw [hm, hv]
  have hs : sumSign false false ((c * 2 ^ (t - m) + d * 2 ^ (r - m) : Nat) : Int) = false := by
    unfold sumSign
    split
    · rfl
    · exact decide_eq_false (by omega)
  rw [hs, Int.natAbs_natCast]
  refine round_FD (m := 54 + (K - m)) (K := K + 1) ?_ (by omega) (by omega)
  have h1 : c * 2 ^ (t - m) < 9007199254740992 * 2 ^ (K - m) := Nat.lt_of_lt_of_le (Nat.mul_lt_mul_of_pos_right hc (Nat.two_pow_pos _)) (Nat.mul_le_mul_left _ (Nat.pow_le_pow_right (by omega) (by omega)))
  have h2 : d * 2 ^ (r - m) < 9007199254740992 * 2 ^ (K - m) := Nat.lt_of_lt_of_le (Nat.mul_lt_mul_of_pos_right hd (Nat.two_pow_pos _)) (Nat.mul_le_mul_left _ (Nat.pow_le_pow_right (by omega) (by omega)))
  have h3 : 2 ^ (54 + (K - m)) = 2 * (9007199254740992 * 2 ^ (K - m)) := by
    rw [Nat.pow_add]
    omega
  omega
/-- a product -/
theorem FB_dmul {K F : Nat} {a b : UInt64} (ha : FB (1021 + K) a) (hb : FB F b) (hF : F ≤ 1021 + 40) (hK : K ≤ 900) : FB (K + F + 2) (dmul a b) ∧ (dmul a b).toNat < 9218868437227405312 := by
  obtain ⟨c, t, e1, hc, ht⟩ := ha
  obtain ⟨d, r, e2, hd, hr⟩ := hb
  refine enc_FB ?_ (by omega)
  rw [e1, e2]
  unfold exactProduct round
  try dsimp only
  rw [show (false != false) = false from rfl]
  refine round_FD (m := 106) (K := K + F + 1) ?_ (by omega) (by omega)
  have h1 : c * d < 9007199254740992 * 9007199254740992 := Nat.mul_lt_mul'' hc hd
  have h3 : (2 : Nat) ^ 106 = 9007199254740992 * 9007199254740992 := by decide
  omega
def FC (K : Nat) (a : UInt64) : Prop := FB K a ∧ a.toNat < 9218868437227405312
theorem FC_mono {K M : Nat} {a : UInt64} (h : FC K a) (hM : K ≤ M) : FC M a := by
  obtain ⟨⟨c, t, e1, hc, ht⟩, h2⟩ := h
  exact ⟨⟨c, t, e1, hc, by omega⟩, h2⟩
theorem FC_n64 {K : Nat} {a : UInt64} (h : FC K a) : a &&& 0x7fffffffffffffff ≤ 0x7ff0000000000000 := by
  rw [UInt64.le_iff_toNat_le, UInt64.toNat_and]
  have h1 : a.toNat &&& (0x7fffffffffffffff : UInt64).toNat ≤ a.toNat := Nat.and_le_left
  have h2 : (0x7ff0000000000000 : UInt64).toNat = 9218868437227405312 := by decide
  have := h.2
  omega
theorem FC_dadd {K : Nat} {a b : UInt64} (ha : FC K a) (hb : FC K b) (hK : K ≤ 2000) : FC (K + 2) (dadd a b) := FB_dadd ha.1 hb.1 hK
theorem FC_dmul {K F : Nat} {a b : UInt64} (ha : FC (1021 + K) a) (hb : FC F b) (hF : F ≤ 1021 + 40) (hK : K ≤ 900) : FC (K + F + 2) (dmul a b) := FB_dmul ha.1 hb.1 hF hK
theorem FC_0 {K : Nat} : FC K 0 := ⟨⟨0, 0, dec_lo (by decide), by omega, by omega⟩, by decide⟩
theorem near1 (c : Nat) {b : Nat} (hb : 0 < b) : nearest (c * b) b = c := by
  unfold nearest
  rw [Nat.mul_mod_left, Nat.mul_div_cancel _ hb, if_pos (by omega)]
theorem dadd0 {a : UInt64} (h : a.toNat < 9218868437227405312) : dadd a 0 = a := by
  unfold dadd add
  have h0 : decode b64 (0 : UInt64).toNat = .fin false 0 (-1074) := dec_lo (by decide)
  rw [h0]
  have key : encode b64 (round b64 (exactSum (decode b64 a.toNat) (.fin false 0 (-1074)))) = a.toNat := by
    generalize a.toNat = n at h
    by_cases hlo : n < 4503599627370496
    · rw [dec_lo hlo]
      unfold exactSum round
      try dsimp only
      have hv : sumUnits false n (-1074) false 0 (-1074) (min (-1074) (-1074)) = ((n : Nat) : Int) := by
        unfold sumUnits signed inUnits; simp
      rw [hv]
      have hs : sumSign false false ((n : Nat) : Int) = false := by
        unfold sumSign; split
        · rfl
        · exact decide_eq_false (by omega)
      rw [hs, Int.natAbs_natCast]
      have hr : roundRatio b64 false n 1 (min (-1074) (-1074)) = .fin false n (-1074) := by
        unfold roundRatio
        by_cases hz : n = 0
        · rw [if_pos hz, f_q, hz]
        · rw [if_neg hz]
          have hl : n.log2 < 52 := (Nat.log2_lt hz).mpr (by omega)
          have hQ : quantum b64 n 1 (min (-1074) (-1074)) = -1074 := by
            unfold quantum
            rw [lead1 hz, f_q, show ((b64.p : Int) - 1) = 52 from by decide]
            omega
          rw [hQ]
          unfold roundAt unitsNum unitsDen
          have := near1 n (b := 1) (by omega)
          rw [Nat.mul_one] at this
          simp only [Int.min_self, Int.sub_self, Int.toNat_zero, Nat.pow_zero, Nat.mul_one]
          rw [this]
          unfold settle bound
          rw [f_p, f_x, if_pos (by omega), if_pos (by omega)]
      rw [hr]
      unfold encode
      try dsimp only
      rw [f_t, if_pos hlo]
      unfold assemble; simp
    · obtain ⟨t, x, hx, rfl, ht⟩ : ∃ t x, x < 4503599627370496 ∧ n = (t + 1) * 4503599627370496 + x ∧ t ≤ 2045 := ⟨n / 4503599627370496 - 1, n % 4503599627370496, by omega, by omega, by omega⟩
      rw [dec_hi hx ht]
      unfold exactSum round
      try dsimp only
      obtain ⟨c, hc⟩ : ∃ c, c = 4503599627370496 + x := ⟨_, rfl⟩
      rw [← hc]
      have hmin : min (-1074 + (t : Int)) (-1074) = -1074 := by omega
      have hv : sumUnits false c (-1074 + (t : Int)) false 0 (-1074) (-1074) = ((c * 2 ^ t : Nat) : Int) := by
        unfold sumUnits signed inUnits
        rw [show (-1074 + (t : Int) - -1074).toNat = t by omega]
        simp
      rw [hmin, hv]
      have hs : sumSign false false ((c * 2 ^ t : Nat) : Int) = false := by
        unfold sumSign; split
        · rfl
        · exact decide_eq_false (by omega)
      rw [hs, Int.natAbs_natCast]
      have hp := Nat.two_pow_pos t
      have hcp : 2 ^ t ≤ c * 2 ^ t := Nat.le_mul_of_pos_left _ (by omega)
      have hz : c * 2 ^ t ≠ 0 := by omega
      have hlog : (c * 2 ^ t).log2 = 52 + t := by
        rw [Nat.log2_eq_iff hz]
        constructor
        · rw [Nat.pow_add]; exact Nat.mul_le_mul_right _ (by omega)
        · rw [show 52 + t + 1 = 53 + t by omega, Nat.pow_add]; exact Nat.mul_lt_mul_of_pos_right (by omega) hp
      have hr : roundRatio b64 false (c * 2 ^ t) 1 (-1074) = .fin false c (-1074 + (t : Int)) := by
        unfold roundRatio
        rw [if_neg hz]
        have hQ : quantum b64 (c * 2 ^ t) 1 (-1074) = -1074 + (t : Int) := by
          unfold quantum
          rw [lead1 hz, hlog, f_q, show ((b64.p : Int) - 1) = 52 from by decide]
          omega
        rw [hQ]
        unfold roundAt unitsNum unitsDen
        rw [show (-1074 - (-1074 + (t : Int))).toNat = 0 by omega, show (-1074 + (t : Int) - -1074).toNat = t by omega, Nat.pow_zero, Nat.mul_one, Nat.one_mul, near1 c hp]
        unfold settle bound
        rw [f_p, f_x, if_pos (by omega), if_pos (by omega)]
      rw [hr]
      unfold encode
      try dsimp only
      rw [f_t, f_q, if_neg (by omega)]
      unfold assemble
      rw [f_t, show (-1074 + (t : Int) - -1074).toNat = t by omega, hc]
      simp
  rw [key]
  exact UInt64.toNat_inj.mp (by rw [UInt64.toNat_ofNat']; omega)
theorem dmul0 {K : Nat} {a : UInt64} (h : FC K a) : dmul a 0 = 0 ∧ dmul 0 a = 0 := by
  obtain ⟨⟨c, t, e1, hc, ht⟩, h2⟩ := h
  have h0 : decode b64 (0 : UInt64).toNat = .fin false 0 (-1074) := dec_lo (by decide)
  have e : ∀ e, encode b64 (roundRatio b64 false 0 1 e) = 0 := fun e => by
    unfold roundRatio
    rw [if_pos rfl]
    unfold encode
    try dsimp only
    rw [f_t, if_pos (by omega)]
    unfold assemble; simp
  unfold dmul mul
  rw [h0, e1]
  constructor
  · unfold exactProduct round
    try dsimp only
    rw [Nat.mul_zero, show (false != false) = false from rfl, e] <;> rfl
  · unfold exactProduct round
    try dsimp only
    rw [Nat.zero_mul, show (false != false) = false from rfl, e] <;> rfl
def chkF (K : Nat) (a : UInt64) : Bool := match decode b64 a.toNat with
  | .fin false c q => decide (c < 9007199254740992 ∧ -1074 ≤ q ∧ (q + 1074).toNat ≤ K ∧ a.toNat < 9218868437227405312)
  | _ => false
theorem chkF_FC {K : Nat} {a : UInt64} (h : chkF K a = true) : FC K a := by
  unfold chkF at h
  split at h
  · rename_i c q e
    have h' := of_decide_eq_true h
    exact ⟨⟨c, (q + 1074).toNat, by rw [e, show -1074 + ((q + 1074).toNat : Int) = q by omega], h'.1, h'.2.2.1⟩, h'.2.2.2⟩
  · exact absurd h (by decide)
theorem dcmp_self' {K : Nat} {a : UInt64} (h : FC K a) : dcmp a a = some .eq := by
  obtain ⟨⟨c, t, e1, hc, ht⟩, h2⟩ := h
  unfold dcmp cmp
  rw [e1]
  unfold order
  simp
def ppN (c : Nat) : UInt64 := ddiv (i2d (Int32.ofNat c)) 4636737291354636288
theorem pp_ok : ∀ c, c < 101 → chkF 1022 (ppN c) = true ∧ chkF 1022 (dsub dconst1 (ppN c)) = true := by decide +kernel
theorem i2d_ok : ∀ k, k < 210 → chkF 1030 (i2d (Int32.ofNat k)) = true := by decide +kernel
theorem FC_1 : FC 1022 dconst1 := chkF_FC (by decide +kernel)
end
