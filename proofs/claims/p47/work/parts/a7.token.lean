/-! p47, layer 2: tokens of a known text -/
def Bt (ls : List Nat) : Nat → Int32 := fun i => nI (chT ls i)
def nbH (q : List Nat) : Prop := ∀ c q2, q = c :: q2 → c ≠ 32 ∧ c ≠ 10
def wdO (w : List Nat) : Prop := 1 ≤ w.length ∧ w.length ≤ 8 ∧ ∀ l, l ∈ w → 97 ≤ l ∧ l ≤ 122
theorem chT_drop {ls r : List Nat} {s : Nat} (h : ls.drop s = r) (k : Nat) : chT ls (s + k) = chT r k := by
  unfold chT
  rw [List.getD_eq_getElem?_getD, List.getD_eq_getElem?_getD, ← h, List.getElem?_drop]
theorem len_drop {ls r : List Nat} {s : Nat} (h : ls.drop s = r) (hs : s ≤ ls.length) : ls.length = s + r.length := by
  rw [← h, List.length_drop]
  omega
theorem chT_l {a b : List Nat} {i : Nat} (h : i < a.length) : chT (a ++ b) i = a.getD i 0 := by
  unfold chT
  rw [List.getD_eq_getElem?_getD, List.getD_eq_getElem?_getD, List.getElem?_append_left h, List.getElem?_eq_getElem h]
  rfl
theorem chT_r {a b : List Nat} {i : Nat} : chT (a ++ b) (a.length + i) = chT b i := by
  unfold chT
  rw [List.getD_eq_getElem?_getD, List.getD_eq_getElem?_getD, List.getElem?_append_right (by omega), Nat.add_sub_cancel_left]
theorem getD_mem {a : List Nat} {i : Nat} (h : i < a.length) : a.getD i 0 ∈ a := by
  rw [List.getD_eq_getElem?_getD, List.getElem?_eq_getElem h]
  exact List.getElem_mem h
theorem ltr_d {x : Nat} (h : x < 128) : ltr (nI x) = decide (97 ≤ x ∧ x ≤ 122) := by
  unfold ltr
  exact decide_eq_decide.mpr ⟨fun q => ⟨(nI_leI (by omega) (by omega)).mp q.1, (nI_leI (by omega) (by omega)).mp q.2⟩, fun q => ⟨(nI_leI (by omega) (by omega)).mpr q.1, (nI_leI (by omega) (by omega)).mpr q.2⟩⟩
theorem dgt_d {x : Nat} (h : x < 128) : dgt (nI x) = decide (48 ≤ x ∧ x ≤ 57) := by
  unfold dgt
  exact decide_eq_decide.mpr ⟨fun q => ⟨(nI_leI (by omega) (by omega)).mp q.1, (nI_leI (by omega) (by omega)).mp q.2⟩, fun q => ⟨(nI_leI (by omega) (by omega)).mpr q.1, (nI_leI (by omega) (by omega)).mpr q.2⟩⟩
theorem blk_d {x : Nat} (h : x < 128) : blk (nI x) = decide (x = 32 ∨ x = 10) := by
  unfold blk
  exact decide_eq_decide.mpr ⟨fun q => q.elim (fun z => Or.inl (nI_inj (by omega) (by omega) z)) (fun z => Or.inr (nI_inj (by omega) (by omega) z)), fun q => q.elim (fun z => Or.inl (by rw [z])) (fun z => Or.inr (by rw [z]))⟩
section
variable {ls w q : List Nat} {s c v : Nat}
theorem btA_d (ha : asc ls) {k : Nat} : btA ls.length (Bt ls) k = if k < ls.length then nI (chT ls k) else nI 0 := rfl
theorem skp_0 (ha : asc ls) (h : ls.drop s = q) (hs : s ≤ ls.length) (hn : nbH q) : skp ls.length (Bt ls) s = s := by
  have hl := len_drop h hs
  unfold skp
  rw [fstN_eq (k := 0) (by omega) (fun i hi => by omega) (fun hlt => ?_), Nat.add_zero]
  unfold nbl Bt
  rw [chT_drop h, blk_d (by rw [← chT_drop h]; exact chT_lt ha _)]
  cases q with
  | nil => simp at hl; omega
  | cons c q2 =>
    obtain ⟨n1, n2⟩ := hn c q2 rfl
    have e : chT (c :: q2) 0 = c := rfl
    rw [e, decide_eq_false (by omega)]
    rfl
theorem skp_1 (ha : asc ls) (h : ls.drop s = 32 :: q) (hs : s ≤ ls.length) (hn : nbH q) : skp ls.length (Bt ls) s = s + 1 := by
  have hl := len_drop h hs
  rw [List.length_cons] at hl
  unfold skp
  rw [fstN_eq (k := 1) (by omega) (fun i hi => ?_) (fun hlt => ?_)]
  · have e : i = 0 := by omega
    subst e
    unfold nbl Bt
    rw [chT_drop h]
    show (!blk (nI 32)) = false
    decide
  · unfold nbl Bt
    rw [chT_drop h, blk_d (by rw [← chT_drop h]; exact chT_lt ha _)]
    cases q with
    | nil => simp at hl; omega
    | cons c q2 =>
      obtain ⟨n1, n2⟩ := hn c q2 rfl
      have e : chT (32 :: c :: q2) 1 = c := rfl
      rw [e, decide_eq_false (by omega)]
      rfl
theorem drop_add {r : List Nat} (h : ls.drop s = w ++ r) : ls.drop (s + w.length) = r := by
  rw [← List.drop_drop, h, List.drop_left]
theorem tk_wd (ha : asc ls) (h : ls.drop s = w ++ c :: q) (hs : s ≤ ls.length) (hw : wdO w) (hc : ¬ (97 ≤ c ∧ c ≤ 122)) : tkK ls.length (Bt ls) s = 1 ∧ tkE ls.length (Bt ls) s = s + w.length ∧ lts ls.length (Bt ls) s = w.length ∧ lsN (Bt ls) s (lts ls.length (Bt ls) s) = w.map (fun l => l - 96) := by
  obtain ⟨w1, w2, w3⟩ := hw
  have hl := len_drop h hs
  rw [List.length_append, List.length_cons] at hl
  have hin : ∀ k, k < w.length → Bt ls (s + k) = nI (w.getD k 0) := fun k hk => by
    unfold Bt
    rw [chT_drop h, chT_l hk]
  have hlt : ∀ k, k < w.length → ltr (Bt ls (s + k)) = true := fun k hk => by
    have := w3 _ (getD_mem hk)
    rw [hin k hk, ltr_d (by omega), decide_eq_true (by omega)]
  have hc128 : c < 128 := by
    have := chT_lt ha (s + (w.length + 0))
    rw [chT_drop h, chT_r] at this
    exact this
  have e : lts ls.length (Bt ls) s = w.length := by
    unfold lts
    refine fstN_eq (by omega) (fun i hi => ?_) (fun _ => ?_)
    · unfold nlt btA
      rw [if_pos (by omega), hlt i hi]
      rfl
    · unfold nlt btA
      rw [if_pos (by omega)]
      unfold Bt
      have e2 : chT ls (s + w.length) = c := by
        have := chT_drop h (w.length + 0)
        rw [chT_r] at this
        exact this
      rw [e2, ltr_d hc128, decide_eq_false hc]
      rfl
  have h0 : ltr (Bt ls s) = true := hlt 0 w1
  refine ⟨?_, ?_, e, ?_⟩
  · unfold tkK
    rw [if_pos (by omega), if_pos h0, e, if_neg (by omega)]
  · unfold tkE
    rw [if_pos (by omega), if_pos h0, e]
  · rw [e]
    apply List.ext_getElem?
    intro k
    by_cases hk : k < w.length
    · have hv := w3 _ (getD_mem hk)
      rw [lsN_get _ _ _ _ hk, hin k hk, nI_toInt (by omega), List.getElem?_map, List.getElem?_eq_getElem hk]
      have : w.getD k 0 = w[k] := by rw [List.getD_eq_getElem?_getD, List.getElem?_eq_getElem hk] <;> rfl
      rw [this]
      rfl
    · rw [List.getElem?_eq_none (by rw [lsN_len]; omega), List.getElem?_eq_none (by rw [List.length_map]; omega)]
theorem vl_dec (ha : asc ls) {r : List Nat} (h : ls.drop s = dec v ++ r) (hv : v < 1000) : vlN (Bt ls) s (dec v).length = nI v := by
  have hin : ∀ k, k < (dec v).length → Bt ls (s + k) = nI ((dec v).getD k 0) := fun k hk => by
    unfold Bt
    rw [chT_drop h, chT_l hk]
  have st : ∀ k a d, k < (dec v).length → vlN (Bt ls) s k = nI a → (dec v).getD k 0 = 48 + d → vlN (Bt ls) s (k + 1) = nI (a * 10 + d) := fun k a d hk e1 e2 => by
    show ((vlN (Bt ls) s k * nI 10) + Bt ls (s + k)) - nI 48 = _
    rw [e1, hin k hk, e2, pk_mul, nI_add, pk_sub (by omega)]
    congr 1
    omega
  by_cases h1 : v < 10
  · have d1 : dec v = [48 + v] := by unfold dec; rw [if_pos h1]
    rw [d1] at st ⊢
    have := st 0 0 v (by simp) rfl rfl
    rw [show 0 * 10 + v = v by omega] at this
    exact this
  · by_cases h2 : v < 100
    · have d1 : dec v = [48 + v / 10, 48 + v % 10] := by unfold dec; rw [if_neg h1, if_pos h2]
      rw [d1] at st ⊢
      have := st 1 _ (v % 10) (by simp) (st 0 0 (v / 10) (by simp) rfl rfl) rfl
      rw [show (0 * 10 + v / 10) * 10 + v % 10 = v by omega] at this
      exact this
    · have d1 : dec v = [48 + v / 100, 48 + v / 10 % 10, 48 + v % 10] := by unfold dec; rw [if_neg h1, if_neg h2]
      rw [d1] at st ⊢
      have := st 2 _ (v % 10) (by simp) (st 1 _ (v / 10 % 10) (by simp) (st 0 0 (v / 100) (by simp) rfl rfl) rfl) rfl
      rw [show ((0 * 10 + v / 100) * 10 + v / 10 % 10) * 10 + v % 10 = v by omega] at this
      exact this
theorem tk_num (ha : asc ls) (h : ls.drop s = dec v ++ c :: q) (hs : s ≤ ls.length) (hv : v < 1000) (hc : ¬ (48 ≤ c ∧ c ≤ 57)) : tkK ls.length (Bt ls) s = 2 ∧ tkE ls.length (Bt ls) s = s + (dec v).length ∧ dgs ls.length (Bt ls) s = (dec v).length := by
  obtain ⟨w1, w2⟩ := dec_len v
  have w3 := dec_f v hv
  have hl := len_drop h hs
  rw [List.length_append, List.length_cons] at hl
  have hin : ∀ k, k < (dec v).length → Bt ls (s + k) = nI ((dec v).getD k 0) := fun k hk => by
    unfold Bt
    rw [chT_drop h, chT_l hk]
  have hlt : ∀ k, k < (dec v).length → dgt (Bt ls (s + k)) = true := fun k hk => by
    have := w3 _ (getD_mem hk)
    rw [hin k hk, dgt_d (by omega), decide_eq_true (by omega)]
  have hc128 : c < 128 := by
    have := chT_lt ha (s + ((dec v).length + 0))
    rw [chT_drop h, chT_r] at this
    exact this
  have e : dgs ls.length (Bt ls) s = (dec v).length := by
    unfold dgs
    refine fstN_eq (by omega) (fun i hi => ?_) (fun _ => ?_)
    · unfold ndg btA
      rw [if_pos (by omega), hlt i hi]
      rfl
    · unfold ndg btA
      rw [if_pos (by omega)]
      unfold Bt
      have e2 : chT ls (s + (dec v).length) = c := by
        have := chT_drop h ((dec v).length + 0)
        rw [chT_r] at this
        exact this
      rw [e2, dgt_d hc128, decide_eq_false hc]
      rfl
  have h0 : dgt (Bt ls s) = true := hlt 0 w1
  have h1 : ltr (Bt ls s) = false := by
    have := w3 _ (getD_mem (a := dec v) (i := 0) w1)
    have e0 := hin 0 w1
    rw [Nat.add_zero] at e0
    rw [e0, ltr_d (by omega), decide_eq_false (by omega)]
  refine ⟨?_, ?_, e⟩
  · unfold tkK
    rw [if_pos (by omega), if_neg (by rw [h1]; decide), if_pos h0, e, if_neg (by omega)]
  · unfold tkE
    rw [if_pos (by omega), if_neg (by rw [h1]; decide), if_pos h0, e]
theorem tk_end (ha : asc ls) (h : ls.drop s = 59 :: q) (hs : s ≤ ls.length) : tkK ls.length (Bt ls) s = 3 ∧ tkE ls.length (Bt ls) s = s + 1 := by
  have hl := len_drop h hs
  rw [List.length_cons] at hl
  have e : Bt ls s = nI 59 := by
    unfold Bt
    have := chT_drop h 0
    rw [Nat.add_zero] at this
    rw [this]
    rfl
  have hlt : s < ls.length := by omega
  refine ⟨?_, ?_⟩
  · unfold tkK
    rw [if_pos hlt, e, if_neg (by decide), if_neg (by decide), if_pos rfl]
  · unfold tkE
    rw [if_pos hlt, e, if_neg (by decide), if_neg (by decide)]
theorem tk_nil (h : ls.drop s = []) (hs : s ≤ ls.length) : tkK ls.length (Bt ls) s = 0 := by
  have hl := len_drop h hs
  rw [List.length_nil] at hl
  unfold tkK
  rw [if_neg (by omega)]
/-- behind the token that begins r there is r2 -/
def NX (ls : List Nat) (r r2 : List Nat) : Prop := ∀ s, s ≤ ls.length → ls.drop s = r → ls.drop (nxT ls.length (Bt ls) s) = r2
theorem NX_w (ha : asc ls) (hw : wdO w) (hn : nbH q) : NX ls (w ++ 32 :: q) q := fun s hs h => by
  have hl := len_drop h hs
  rw [List.length_append] at hl
  unfold nxT
  rw [(tk_wd ha h hs hw (by omega)).2.1, skp_1 ha (drop_add h) (by omega) hn, ← List.drop_drop, drop_add h]
  rfl
theorem NX_w2 (ha : asc ls) (hw : wdO w) : NX ls (w ++ 59 :: q) (59 :: q) := fun s hs h => by
  have hl := len_drop h hs
  rw [List.length_append] at hl
  unfold nxT
  rw [(tk_wd ha h hs hw (by omega)).2.1, skp_0 ha (drop_add h) (by omega) (fun c q2 e => by injection e with e1 e2; omega), drop_add h]
theorem NX_n (ha : asc ls) (hv : v < 1000) (hn : nbH q) : NX ls (dec v ++ 32 :: q) q := fun s hs h => by
  have hl := len_drop h hs
  rw [List.length_append] at hl
  unfold nxT
  rw [(tk_num ha h hs hv (by omega)).2.1, skp_1 ha (drop_add h) (by omega) hn, ← List.drop_drop, drop_add h]
  rfl
theorem NX_n2 (ha : asc ls) (hv : v < 1000) : NX ls (dec v ++ 59 :: q) (59 :: q) := fun s hs h => by
  have hl := len_drop h hs
  rw [List.length_append] at hl
  unfold nxT
  rw [(tk_num ha h hs hv (by omega)).2.1, skp_0 ha (drop_add h) (by omega) (fun c q2 e => by injection e with e1 e2; omega), drop_add h]
theorem NX_s (ha : asc ls) (hn : nbH q) : NX ls (59 :: q) q := fun s hs h => by
  have hl := len_drop h hs
  rw [List.length_cons] at hl
  have hd : ls.drop (s + 1) = q := drop_add (w := [59]) h
  unfold nxT
  rw [(tk_end ha h hs).2, skp_0 ha hd (by omega) hn, hd]
end
