/-! p47, layer 2: what StringBuilder holds, as a list of characters -/
def SBr (capQ : Nat) (bf : Nat → Int32) (cn : Int32) (ls : List Nat) : Prop := cn = nI ls.length ∧ ls.length ≤ capQ ∧ ls.length ≤ 440 ∧ capQ ≤ 900 ∧ (∀ i, i < capQ → ∃ c, c < 128 ∧ bf i = nI c) ∧ (∀ i, i < ls.length → bf i = nI (ls.getD i 0))
theorem fitB : ∀ c, c < 128 → fits .byte (.int (nI c)) = true := by decide +kernel
theorem narB : ∀ c, c < 128 → vp_nar .byte (nI c).toInt8.toInt32 = nI c := by decide +kernel
theorem narB2 : ∀ c, c < 128 → vp_nar .byte (nI c) = nI c := by decide +kernel
theorem shr0 {n : Nat} (h : n < 2 ^ 31) : nI n >>> ((0 : Int32) &&& 31) = nI n := by
  have := nI_shr (n := n) (k := 0) h (by omega)
  rw [show nI 0 = (0 : Int32) from rfl] at this
  rw [this, Nat.pow_zero, Nat.div_one]
theorem shl0 {n : Nat} (h : n < 2 ^ 31) : nI n <<< ((0 : Int32) &&& 31) = nI n := by
  have := nI_shl (n := n) (k := 0) (by omega) (by omega)
  rw [show nI 0 = (0 : Int32) from rfl] at this
  rw [this, Nat.pow_zero, Nat.mul_one]
theorem nlt0 {n : Nat} (h : n < 2 ^ 31) : ¬ nI n < nI 0 := fun z => by have := (nI_ltI h (by omega)).mp z; omega
theorem gD_l {a b : List Nat} {i : Nat} (h : i < a.length) : (a ++ b).getD i 0 = a.getD i 0 := by
  rw [List.getD_eq_getElem?_getD, List.getD_eq_getElem?_getD, List.getElem?_append_left h]
theorem gD_r {a b : List Nat} {i : Nat} (h : a.length ≤ i) : (a ++ b).getD i 0 = b.getD (i - a.length) 0 := by
  rw [List.getD_eq_getElem?_getD, List.getD_eq_getElem?_getD, List.getElem?_append_right h]
theorem sub_le0 {a b : Nat} (ha : a < 2 ^ 30) (hb : b < 2 ^ 30) : nI a - nI b ≤ (0 : Int32) ↔ a ≤ b := by
  rw [Int32.le_iff_toInt_le, pk_sub_toInt ha hb]
  show (a : Int) - b ≤ 0 ↔ _
  omega
section
variable {capQ : Nat} {bf : Nat → Int32} {cn : Int32} {ls : List Nat}
theorem sbLat_h : fT_sbLat capQ bf cn = some (1 : Int32) := rfl
theorem newLen_h {n : Nat} (hc : capQ ≤ 900) (hn : n ≤ 440) (h : capQ < n) : fJ8_newLength_cabcc (nI capQ) (nI n - nI capQ) (nI capQ + nI 2) = some (nI (capQ + (if n - capQ < capQ + 2 then capQ + 2 else n - capQ))) := by
  unfold fJ8_newLength_cabcc
  rw [pk_sub (by omega), nI_add]
  have e : (if nI (n - capQ) < nI (capQ + 2) then nI (capQ + 2) else nI (n - capQ)) = nI (if n - capQ < capQ + 2 then capQ + 2 else n - capQ) := by
    by_cases q : n - capQ < capQ + 2
    · rw [if_pos ((nI_ltI (by omega) (by omega)).mpr q), if_pos q]
    · rw [if_neg (fun z => q ((nI_ltI (by omega) (by omega)).mp z)), if_neg q]
  rw [e, nI_add]
  obtain ⟨m, hm⟩ : ∃ m, m = (if n - capQ < capQ + 2 then capQ + 2 else n - capQ) := ⟨_, rfl⟩
  have hm2 : 2 ≤ m ∧ m ≤ 1000 := by
    rw [hm]
    split <;> omega
  rw [← hm, if_neg (fun z => by have := (nI_leI (b := 0) (by omega) (by omega)).mp z; omega), if_neg (fun z => by have := (nI_ltI (a := 2147483639) (by omega) (by omega)).mp z; omega)]
theorem sbNew_h {n : Nat} (hc : capQ ≤ 900) (hn : n ≤ 440) (h : capQ < n) : OkQ (fT_sbNew (nI n) capQ bf cn) (fun r => ∃ m, r = nI m ∧ n ≤ m ∧ m ≤ 900 ∧ capQ < m) := by
  unfold fT_sbNew
  show OkQ ((fJ8_newLength_cabcc (nI capQ) ((nI n <<< ((0 : Int32) &&& 31)) - nI capQ) (nI capQ + nI 2)).bind _) _
  rw [shl0 (by omega), newLen_h hc hn h, Option.bind_some]
  obtain ⟨m, hm⟩ : ∃ m, m = capQ + (if n - capQ < capQ + 2 then capQ + 2 else n - capQ) := ⟨_, rfl⟩
  have hm2 : n ≤ m ∧ m ≤ 900 ∧ capQ < m := by
    rw [hm]
    split <;> omega
  have hne : ¬ nI m = (2147483647 : Int32) := nI_ne (b := 2147483647) (by omega) (by omega) (by omega)
  rw [← hm, if_pos hne, shr0 (by omega)]
  exact Ok_some ⟨m, rfl, hm2⟩
theorem sbEns_h (H : SBr capQ bf cn ls) {n : Nat} (hn : n ≤ 440) : OkQ (fT_sbEns (nI n) capQ bf cn) (fun r => SBr r.1 r.2 cn ls ∧ n ≤ r.1) := by
  obtain ⟨h1, h2, h3, h4, h5, h6⟩ := H
  unfold fT_sbEns
  show OkQ (if (nI n - (nI capQ >>> ((0 : Int32) &&& 31))) ≤ 0 then _ else _) _
  rw [shr0 (by omega)]
  by_cases h : n ≤ capQ
  · rw [if_pos ((sub_le0 (by omega) (by omega)).mpr h)]
    exact Ok_some ⟨⟨h1, h2, h3, h4, h5, h6⟩, h⟩
  · rw [if_neg (fun z => h ((sub_le0 (by omega) (by omega)).mp z))]
    obtain ⟨r, e, m, rfl, m1, m2, m3⟩ := sbNew_h (bf := bf) (cn := cn) h4 hn (by omega)
    rw [e, Option.bind_some, shl0 (by omega)]
    unfold fT_cpOf
    show OkQ ((if ¬ nI m = nI capQ then gd (¬ nI m < nI 0) (gd ((nI m).toNatClampNeg ≤ 2000) (gd (¬ (0 : Int32) < 0) (gd (¬ (if nI m < nI capQ then nI m else nI capQ) < nI 0) (gd (¬ (0 : Int32) < 0) (gd (0 + (if nI m < nI capQ then nI m else nI capQ).toNatClampNeg ≤ capQ) (gd (0 + (if nI m < nI capQ then nI m else nI capQ).toNatClampNeg ≤ (nI m).toNatClampNeg) (gd (∀ i, i < (if nI m < nI capQ then nI m else nI capQ).toNatClampNeg → fits .byte (.int (bf (0 + i))) = true) (some ((nI m).toNatClampNeg, va_cpy bf (fun _ => 0) 0 0 (if nI m < nI capQ then nI m else nI capQ).toNatClampNeg)))))))))  else _).bind _) _
    rw [if_pos (nI_ne (by omega) (by omega) (by omega)), if_neg (fun z => by have := (nI_ltI (by omega) (by omega)).mp z; omega), nI_clamp (by omega), nI_clamp (by omega)]
    rw [gd_pos (nlt0 (by omega)), gd_pos (by omega), gd_pos (by decide), gd_pos (nlt0 (by omega)), gd_pos (by decide), gd_pos (by omega), gd_pos (by omega), gd_pos (fun i hi => by
      obtain ⟨c, c1, c2⟩ := h5 (0 + i) (by omega)
      rw [c2]
      exact fitB c c1), Option.bind_some]
    refine Ok_some ⟨⟨h1, by dsimp only; omega, h3, m2, fun i hi => ?_, fun i hi => ?_⟩, by dsimp only; omega⟩
    · dsimp only at hi ⊢
      by_cases q : i < capQ
      · rw [pk_cpy_in (by omega) (by omega)]
        exact h5 _ (by omega)
      · rw [pk_cpy_out (by omega)]
        exact ⟨0, by omega, rfl⟩
    · dsimp only
      rw [pk_cpy_in (by omega) (by omega), show 0 + (i - 0) = i by omega]
      exact h6 i hi
theorem SBr_put (H : SBr capQ bf cn ls) {bs : List Nat} (hb : ∀ c, c ∈ bs → c < 128) {g : Nat → Int32} (hl : ls.length + bs.length ≤ capQ) (hl2 : ls.length + bs.length ≤ 440) (h1 : ∀ i, i < ls.length → g i = bf i) (h2 : ∀ i, i < bs.length → g (ls.length + i) = nI (bs.getD i 0)) (h3 : ∀ i, ls.length + bs.length ≤ i → g i = bf i) : SBr capQ g (nI (ls.length + bs.length)) (ls ++ bs) := by
  obtain ⟨q1, q2, q3, q4, q5, q6⟩ := H
  have hg : ∀ i, i < bs.length → bs.getD i 0 < 128 := fun i hi => by
    rw [List.getD_eq_getElem?_getD, List.getElem?_eq_getElem hi]
    exact hb _ (List.getElem_mem hi)
  refine ⟨by rw [List.length_append], by rw [List.length_append]; omega, by rw [List.length_append]; omega, q4, fun i hi => ?_, fun i hi => ?_⟩
  · by_cases a : i < ls.length
    · rw [h1 i a]; exact q5 i hi
    · by_cases b : i < ls.length + bs.length
      · have := h2 (i - ls.length) (by omega)
        rw [show ls.length + (i - ls.length) = i by omega] at this
        exact ⟨_, hg (i - ls.length) (by omega), this⟩
      · rw [h3 i (by omega)]; exact q5 i hi
  · rw [List.length_append] at hi
    by_cases a : i < ls.length
    · rw [h1 i a, q6 i a, gD_l a]
    · have := h2 (i - ls.length) (by omega)
      rw [show ls.length + (i - ls.length) = i by omega] at this
      rw [this, gD_r (by omega)]
theorem canEnc_h {c : Nat} (hc : c < 128) : fJ1_canEncode_fc78d (nI c) = some (1 : Int32) := by
  unfold fJ1_canEncode_fc78d
  rw [if_neg (fun z => by have := (nI_ltI (a := 255) (by omega) (by omega)).mp z; omega)]
theorem sbC_h (H : SBr capQ bf cn ls) {c : Nat} (hc : c < 128) (hl : ls.length + 1 ≤ 440) : OkQ (fT_sbC (nI c) capQ bf cn) (fun r => SBr r.1 r.2.1 r.2.2 (ls ++ [c])) := by
  have hcn := H.1
  unfold fT_sbC fT_sbC0
  obtain ⟨⟨cap2, bf2⟩, e, H2, hle⟩ := sbEns_h H (n := ls.length + 1) hl
  have e2 : fT_sbEns (cn + (1 : Int32)) capQ bf cn = some (cap2, bf2) := by rw [hcn]; rw [hcn] at e; exact (congrArg (fun z => fT_sbEns z capQ bf (nI ls.length)) (nI_add ls.length 1)).trans e
  try dsimp only at H2 hle
  have hc2 := H2.2.2.2.1
  rw [e2, Option.bind_some]
  try dsimp only
  rw [sbLat_h, Option.bind_some, if_neg (by decide), canEnc_h hc, Option.bind_some, if_neg (by decide), hcn, gd_inb (by omega) (by omega), nI_clamp (by omega), narB c hc, Option.bind_some]
  refine Ok_some ?_
  have := SBr_put (g := upd bf2 ls.length (nI c)) H2 (bs := [c]) (fun x hx => by rw [List.mem_singleton.mp hx]; exact hc) (by simpa using hle) (by simpa using hl) (fun i hi => pk_un (by omega)) (fun i hi => by
    have : i = 0 := by simpa using hi
    subst this
    exact pk_us) (fun i hi => pk_un (by have : ls.length + 1 ≤ i := by simpa using hi
                                        omega))
  show SBr cap2 (upd bf2 ls.length (nI c)) (nI ls.length + (1 : Int32)) (ls ++ [c])
  rw [show nI ls.length + (1 : Int32) = nI (ls.length + 1) from nI_add _ _]
  exact this
/-- the characters of a text constant -/
def sT (j : Nat) : List Nat := (bytI.getD j []).map Int32.toNatClampNeg
theorem sT_f : ∀ j, j < 18 → (sT j).length = lenI.getD j 0 ∧ (sT j).length ≤ 10 ∧ (∀ c, c ∈ sT j → c < 128) ∧ (∀ i, i < (sT j).length → (bytI.getD j []).getD i 0 = nI ((sT j).getD i 0)) := by decide +kernel
theorem sbS_h (H : SBr capQ bf cn ls) {j : Nat} (hj : j < 18) (hl : ls.length + (sT j).length ≤ 440) : OkQ (fT_sbS j capQ bf cn) (fun r => SBr r.1 r.2.1 r.2.2 (ls ++ sT j)) := by
  have hcn := H.1
  obtain ⟨s1, s2, s3, s4⟩ := sT_f j hj
  unfold fT_sbS fT_sbS0
  have hlen : fJ0_length_8abf5 j = some (nI (sT j).length) := by
    unfold fJ0_length_8abf5
    rw [show fJ0_coder_7d493 j = some (0 : Int32) from rfl, Option.bind_some]
    show some (nI (lenI.getD j 0) >>> ((0 : Int32) &&& 31)) = _
    rw [← s1, shr0 (by omega)]
  rw [hlen, Option.bind_some]
  obtain ⟨⟨cap2, bf2⟩, e, H2, hle⟩ := sbEns_h H (n := ls.length + (sT j).length) hl
  have e2 : fT_sbEns (cn + nI (sT j).length) capQ bf cn = some (cap2, bf2) := by rw [hcn]; rw [hcn] at e; exact (congrArg (fun z => fT_sbEns z capQ bf (nI ls.length)) (nI_add ls.length (sT j).length)).trans e
  try dsimp only at H2 hle
  have hc2 := H2.2.2.2.1
  rw [e2, Option.bind_some]
  try dsimp only
  have e3 : fT_sbPut cn j cap2 bf2 cn = some (va_cpy (fun k => (bytI.getD j []).getD k 0) bf2 0 ls.length (sT j).length) := by
    unfold fT_sbPut
    rw [show fT_sbInf j cap2 bf2 cn = some () from rfl, Option.bind_some]
    unfold fT_stGet
    rw [show fJ0_coder_7d493 j = some (0 : Int32) from rfl, Option.bind_some, if_neg (fun z => z rfl), hcn, shl0 (by omega), ← s1]
    show (gd (¬ nI ls.length < nI 0) (gd (¬ nI (sT j).length < nI 0) (gd ((nI (sT j).length).toNatClampNeg ≤ (sT j).length) (gd ((nI ls.length).toNatClampNeg + (nI (sT j).length).toNatClampNeg ≤ cap2) (some (va_cpy (fun k => (bytI.getD j []).getD k 0) bf2 0 (nI ls.length).toNatClampNeg (nI (sT j).length).toNatClampNeg)))))).bind _ = _
    rw [nI_clamp (by omega), nI_clamp (by omega), gd_pos (nlt0 (by omega)), gd_pos (nlt0 (by omega)), gd_pos (Nat.le_refl _), gd_pos (by omega), Option.bind_some]
  rw [e3, Option.bind_some, Option.bind_some]
  refine Ok_some ?_
  show SBr cap2 (va_cpy (fun k => (bytI.getD j []).getD k 0) bf2 0 ls.length (sT j).length) (cn + nI (sT j).length) (ls ++ sT j)
  rw [hcn, nI_add]
  refine SBr_put H2 s3 (by omega) hl (fun i hi => by rw [pk_cpy_out (by omega)]) (fun i hi => ?_) (fun i hi => by rw [pk_cpy_out (by omega)])
  rw [pk_cpy_in (by omega) (by omega), show 0 + (ls.length + i - ls.length) = i by omega]
  exact s4 i hi
end
