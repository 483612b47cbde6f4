/-! p47, layer 2: the text laid into the class's buffer, twenty bytes at a time -/
theorem dec_l1 {v : Nat} (h : v < 10) : (dec v).length = 1 := by unfold dec; rw [if_pos h] <;> rfl
theorem dec_l2 {v : Nat} (h : v < 100) : (dec v).length ≤ 2 := by
  unfold dec
  split
  · exact Nat.le_succ 1
  · exact Nat.le_refl 2
section
variable {xs : Nat → Int32} {L : Nat}
theorem txR_le (r : Nat) : (txR xs L r).length ≤ 21 := by
  have h1 := sT_l
  have hm := qM_rng (xs := xs) (L := L) r
  have h2 := sT_k (qM xs L r 0) (by omega)
  have d1 := dec_l1 (v := qM xs L r 1) (by omega)
  have d2 := dec_l2 (v := qM xs L r 2) (by omega)
  have d3 := dec_l2 (v := qM xs L r 3) (by omega)
  unfold txR
  simp only [List.length_append, List.length_cons, List.length_nil]
  omega
theorem txRs_le : ∀ k, (txRs xs L k).length ≤ 21 * k := by
  intro k
  induction k with
  | zero => exact Nat.le_refl _
  | succ k ih =>
    have := txR_le (xs := xs) (L := L) k
    show (txRs xs L k ++ txR xs L k).length ≤ _
    rw [List.length_append]
    omega
theorem txK_le (b : Nat) : (txK xs L b).length ≤ 33 := by
  have h1 := sT_l
  have hk := qK_rng (xs := xs) (L := L) b
  have d0 := dec_l2 (v := qK xs L b 0) (by omega)
  have d1 := dec_l1 (v := qK xs L b 1) (by omega)
  have d2 := dec_l1 (v := qK xs L b 2) (by omega)
  have d3 := dec_l1 (v := qK xs L b 3) (by omega)
  have d4 := dec_l2 (v := qK xs L b 4) (by omega)
  have d5 := dec_len (qK xs L b 5)
  have hn : (txN xs L b 6).length = (dec (qK xs L b 0)).length + (dec (qK xs L b 1)).length + (dec (qK xs L b 2)).length + (dec (qK xs L b 3)).length + (dec (qK xs L b 4)).length + (dec (qK xs L b 5)).length + 6 := by
    simp only [txN, List.length_append, List.length_cons, List.length_nil]
    omega
  unfold txK
  split
  all_goals
    simp only [List.length_append, List.length_cons]
    omega
theorem txKs_le : ∀ k, (txKs xs L k).length ≤ 33 * k := by
  intro k
  induction k with
  | zero => exact Nat.le_refl _
  | succ k ih =>
    have := txK_le (xs := xs) (L := L) k
    show (txKs xs L k ++ txK xs L k).length ≤ _
    rw [List.length_append]
    omega
theorem txS_le : (txS xs L).length ≤ 29 := by
  have h1 := sT_l
  have hs := qS_rng (xs := xs) (L := L)
  have d0 := dec_l2 (v := qS xs L 0) (by omega)
  have d1 := dec_len (qS xs L 1)
  have d2 := dec_l2 (v := qS xs L 2) (by omega)
  have d3 := dec_l2 (v := qS xs L 3) (by omega)
  unfold txS
  simp only [List.length_append, List.length_cons, List.length_nil]
  omega
theorem tX_le : (tX xs L).length ≤ 344 := by
  have h1 := txRs_le (xs := xs) (L := L) (qR xs L)
  have h2 := txS_le (xs := xs) (L := L)
  have h3 := txKs_le (xs := xs) (L := L) (qB xs L)
  have hR := qR_rng (xs := xs) (L := L)
  have hB := qB_rng (xs := xs) (L := L)
  unfold tX
  rw [List.length_append, List.length_append]
  omega
theorem txR_ch (r : Nat) (hr : r < 20) : ∀ c, c ∈ txR xs L r → c < 128 := by
  have hm := qM_rng (xs := xs) (L := L) r
  intro c hc
  unfold txR at hc
  simp only [List.mem_append, List.mem_cons, List.not_mem_nil, or_false] at hc
  rcases hc with hc | hc | hc | hc | hc | hc | hc | hc | hc | hc | hc
  · exact (sT_f 11 (by omega)).2.2.1 c hc
  · omega
  · omega
  · exact (sT_f _ (by omega)).2.2.1 c hc
  · omega
  · have := dec_f _ (by omega) c hc; omega
  · omega
  · have := dec_f _ (by omega) c hc; omega
  · omega
  · have := dec_f _ (by omega) c hc; omega
  · omega
theorem txRs_ch : ∀ k, k ≤ 20 → ∀ c, c ∈ txRs xs L k → c < 128 := by
  intro k
  induction k with
  | zero => intro _ c hc; exact absurd hc (List.not_mem_nil)
  | succ k ih =>
    intro hk c hc
    rcases List.mem_append.mp (show c ∈ txRs xs L k ++ txR xs L k from hc) with h | h
    · exact ih (by omega) c h
    · exact txR_ch k (by omega) c h
theorem txS_ch : ∀ c, c ∈ txS xs L → c < 128 := by
  have hs := qS_rng (xs := xs) (L := L)
  intro c hc
  unfold txS at hc
  simp only [List.mem_append, List.mem_cons, List.not_mem_nil, or_false] at hc
  rcases hc with hc | hc | hc | hc | hc | hc | hc | hc | hc
  · exact (sT_f 12 (by omega)).2.2.1 c hc
  · have := dec_f _ (by omega) c hc; omega
  · exact (sT_f 13 (by omega)).2.2.1 c hc
  · have := dec_f _ (by omega) c hc; omega
  · exact (sT_f 14 (by omega)).2.2.1 c hc
  · have := dec_f _ (by omega) c hc; omega
  · omega
  · have := dec_f _ (by omega) c hc; omega
  · omega
theorem txN_ch (b : Nat) : ∀ w, w ≤ 6 → ∀ c, c ∈ txN xs L b w → c < 128 := by
  intro w
  induction w with
  | zero => intro _ c hc; exact absurd hc (List.not_mem_nil)
  | succ w ih =>
    intro hw c hc
    have hv : qK xs L b w < 1000 := by
      have := qK_rng (xs := xs) (L := L) b
      have e : w = 0 ∨ w = 1 ∨ w = 2 ∨ w = 3 ∨ w = 4 ∨ w = 5 := by omega
      rcases e with rfl | rfl | rfl | rfl | rfl | rfl <;> omega
    rcases List.mem_append.mp (show c ∈ txN xs L b w ++ (32 :: dec (qK xs L b w)) from hc) with h | h
    · exact ih (by omega) c h
    · rcases List.mem_cons.mp h with h | h
      · omega
      · have := dec_f _ hv c h; omega
theorem txK_ch (b : Nat) (hb : b < 20) : ∀ c, c ∈ txK xs L b → c < 128 := by
  intro c hc
  unfold txK at hc
  rcases List.mem_append.mp hc with h | h
  · exact (sT_f 15 (by omega)).2.2.1 c h
  · rcases List.mem_cons.mp h with h | h
    · omega
    · rcases List.mem_append.mp h with h | h
      · exact txN_ch b 6 (by omega) c h
      · split at h
        · exact (sT_f 16 (by omega)).2.2.1 c h
        · exact (sT_f 17 (by omega)).2.2.1 c h
theorem txKs_ch : ∀ k, k ≤ 20 → ∀ c, c ∈ txKs xs L k → c < 128 := by
  intro k
  induction k with
  | zero => intro _ c hc; exact absurd hc (List.not_mem_nil)
  | succ k ih =>
    intro hk c hc
    rcases List.mem_append.mp (show c ∈ txKs xs L k ++ txK xs L k from hc) with h | h
    · exact ih (by omega) c h
    · exact txK_ch k (by omega) c h
theorem tX_ch : ∀ c, c ∈ tX xs L → c < 128 := by
  have hR := qR_rng (xs := xs) (L := L)
  have hB := qB_rng (xs := xs) (L := L)
  intro c hc
  rcases List.mem_append.mp (show c ∈ (txRs xs L (qR xs L) ++ txS xs L) ++ txKs xs L (qB xs L) from hc) with h | h
  · rcases List.mem_append.mp h with h | h
    · exact txRs_ch _ (by omega) c h
    · exact txS_ch c h
  · exact txKs_ch _ (by omega) c h
end
/-- the character of a text; behind it blanks -/
def chT (ls : List Nat) (i : Nat) : Nat := ls.getD i 32
def asc (ls : List Nat) : Prop := ∀ c, c ∈ ls → c < 128
theorem chT_lt {ls : List Nat} (h : asc ls) (i : Nat) : chT ls i < 128 := by
  unfold chT
  rw [List.getD_eq_getElem?_getD]
  by_cases q : i < ls.length
  · rw [List.getElem?_eq_getElem q]; exact h _ (List.getElem_mem q)
  · rw [List.getElem?_eq_none (by omega)]; decide
theorem chT_in {ls : List Nat} {i : Nat} (h : i < ls.length) : ls.getD i 0 = chT ls i := by
  unfold chT
  rw [List.getD_eq_getElem?_getD, List.getD_eq_getElem?_getD, List.getElem?_eq_getElem h]
  rfl
def wv (c : Nat → Nat) (j : Nat) : Nat → Nat
  | 0 => 0
  | m + 1 => wv c j m * 256 + c (4 * j + m)
theorem wv_lt {c : Nat → Nat} (hc : ∀ i, c i < 128) (j : Nat) : wv c j 0 = 0 ∧ wv c j 1 < 2 ^ 7 ∧ wv c j 2 < 2 ^ 15 ∧ wv c j 3 < 2 ^ 23 ∧ wv c j 4 < 2 ^ 31 := by
  have h0 := hc (4 * j + 0)
  have h1 := hc (4 * j + 1)
  have h2 := hc (4 * j + 2)
  have h3 := hc (4 * j + 3)
  refine ⟨rfl, ?_, ?_, ?_, ?_⟩
  all_goals
    simp only [wv]
    omega
theorem toI8 {x : Nat} (h : x % 256 < 128) : (nI x).toInt8.toInt32 = nI (x % 256) := by
  have e : (nI x).toInt8 = (nI (x % 256)).toInt8 := by
    apply Int8.toBitVec_inj.mp
    apply BitVec.eq_of_toNat_eq
    rw [Int32.toBitVec_toInt8, Int32.toBitVec_toInt8, BitVec.signExtend_eq_setWidth_of_le _ (by omega), BitVec.signExtend_eq_setWidth_of_le _ (by omega)]
    show ((BitVec.ofNat 32 x).setWidth 8).toNat = ((BitVec.ofNat 32 (x % 256)).setWidth 8).toNat
    rw [BitVec.toNat_setWidth, BitVec.toNat_setWidth, BitVec.toNat_ofNat, BitVec.toNat_ofNat]
    omega
  rw [e]
  have hd : ∀ y, y < 128 → (nI y).toInt8.toInt32 = nI y := by decide +kernel
  exact hd _ h
theorem byB_wv {c : Nat → Nat} (hc : ∀ i, c i < 128) (j : Nat) {i : Nat} (hi : i < 4) : byB (nI (wv c j 4)) i = nI (c (4 * j + i)) := by
  have h0 := hc (4 * j + 0)
  have h1 := hc (4 * j + 1)
  have h2 := hc (4 * j + 2)
  have h3 := hc (4 * j + 3)
  have e : wv c j 4 = ((c (4 * j + 0) * 256 + c (4 * j + 1)) * 256 + c (4 * j + 2)) * 256 + c (4 * j + 3) := by simp only [wv]; omega
  have hl := (wv_lt hc j).2.2.2.2
  unfold byB
  match i, hi with
  | 0, _ =>
    rw [if_pos rfl, show (24 : Int32) = nI 24 from rfl, nI_shr hl (by omega), toI8 (by omega)]
    congr 1
    omega
  | 1, _ =>
    rw [if_neg (by omega), if_pos rfl, show (16 : Int32) = nI 16 from rfl, nI_shr hl (by omega), toI8 (by omega)]
    congr 1
    omega
  | 2, _ =>
    rw [if_neg (by omega), if_neg (by omega), if_pos rfl, show (8 : Int32) = nI 8 from rfl, nI_shr hl (by omega), toI8 (by omega)]
    congr 1
    omega
  | 3, _ =>
    rw [if_neg (by omega), if_neg (by omega), if_neg (by omega), toI8 (by omega)]
    congr 1
    omega
theorem shor {a b : Nat} (ha : a < 2 ^ 23) (hb : b < 256) : (nI a <<< ((8 : Int32) &&& 31)) ||| nI b = nI (a * 256 + b) := by
  rw [show (8 : Int32) = nI 8 from rfl, nI_shl (by omega) (by omega), nI_or (by omega) (by omega)]
  congr 1
  have := Nat.shiftLeft_add_eq_or_of_lt (a := a) (b := b) (i := 8) hb
  rw [Nat.shiftLeft_eq] at this
  exact this.symm
section
variable {N : Nat} {f : Nat → Int32} {ls : List Nat} {σ : Mem}
theorem lenTS_h (T : TXr N f ls) : fJ0_length_8abf5_TS N f = some (nI ls.length) := by
  obtain ⟨rfl, h2, -⟩ := T
  unfold fJ0_length_8abf5_TS
  rw [show fJ0_coder_7d493_TS ls.length f = some (0 : Int32) from rfl, Option.bind_some]
  exact congrArg some (shr0 (by omega))
theorem ch255 : ∀ c, c < 128 → ((nI c &&& (255 : Int32)).toUInt32 % 65536).toInt32 = nI c ∧ vp_nar .char (nI c) = nI c ∧ nI c &&& (255 : Int32) = nI c := by decide +kernel
theorem charTS_h (T : TXr N f ls) (ha : asc ls) {i : Nat} (hi : i < ls.length) : fJ0_charAt_5068e_TS N f (nI i) = some (nI (chT ls i)) := by
  obtain ⟨rfl, h2, h3⟩ := T
  obtain ⟨c1, c2, c3⟩ := ch255 _ (chT_lt ha i)
  have hv : fJ1_charAt_3b067_TV ls.length f (nI i) = some (nI (chT ls i)) := by
    unfold fJ1_charAt_3b067_TV
    have e : fJ0_checkIndex_df160 (nI i) (Int32.ofNat ls.length) = some () := by
      unfold fJ0_checkIndex_df160 fJ3_checkIndex_8e157
      rw [if_neg (show ¬ nI i < (0 : Int32) from nlt0 (by omega)), if_pos (show nI i < Int32.ofNat ls.length from (nI_ltI (by omega) (by omega)).mpr hi)]
      rfl
    rw [e, Option.bind_some, gd_inb hi (by omega), nI_clamp (by omega), h3 i hi, chT_in hi, c1, gd_pos c2]
  unfold fJ0_charAt_5068e_TS
  rw [show fJ0_isLatin1_aae02_TS ls.length f = some (1 : Int32) from rfl, Option.bind_some, if_neg (by decide), hv, Option.bind_some, gd_pos c2]
def pk5 (c : Nat → Nat) (i j : Nat) : Nat := wv c j (if i - 4 * j < 4 then i - 4 * j else 4)
theorem word_h (T : TXr N f ls) (ha : asc ls) {k : Nat} (hk : k < 1000) (s9 : Mem) : OkQ (loop (stL_lays_22 N f (nI k, s9)) 5000 ((0 : Int32), fun _ => 0)) (fun w => ∀ j, j < 5 → w j = nI (wv (fun q => chT ls (k + q)) j 4)) := by
  have hc : ∀ q, (fun q => chT ls (k + q)) q < 128 := fun q => chT_lt ha _
  have hls := T.2.1
  refine loop_ok 20 (fun i a => a.1 = nI i ∧ ∀ j, j < 5 → a.2 j = nI (pk5 (fun q => chT ls (k + q)) i j)) (by omega) ⟨rfl, fun j hj => ?_⟩ (fun i a hi hI => ?_)
  · show (0 : Int32) = _
    unfold pk5
    rw [if_pos (by omega), Nat.zero_sub]
    rfl
  · obtain ⟨ai, aw⟩ := a
    obtain ⟨h1, h2⟩ := hI
    try dsimp only at h1 h2
    subst h1
    unfold stL_lays_22
    try dsimp only
    by_cases hlt : i < 20
    · have e20 : ¬ (20 : Int32) ≤ nI i := fun z => by have := (nI_leI (a := 20) (by omega) (by omega)).mp z; omega
      have ed : nI i / (4 : Int32) = nI (i / 4) := pk_div (d := 4) (by omega) (by omega) (by omega)
      have hw := h2 (i / 4) (by omega)
      have em : pk5 (fun q => chT ls (k + q)) i (i / 4) = wv (fun q => chT ls (k + q)) (i / 4) (i % 4) := by
        unfold pk5
        rw [if_pos (by omega), show i - 4 * (i / 4) = i % 4 by omega]
      have hb : wv (fun q => chT ls (k + q)) (i / 4) (i % 4) < 2 ^ 23 := by
        have := wv_lt hc (i / 4)
        have e : i % 4 = 0 ∨ i % 4 = 1 ∨ i % 4 = 2 ∨ i % 4 = 3 := by omega
        rcases e with e | e | e | e <;> rw [e] <;> omega
      have hlast : ∀ t : Nat, t = chT ls (k + i) → OkQ (jL_lays_71 (nI i, aw) (nI t)) (fun r => Sum.elim (fun a2 => i < 20 ∧ a2.1 = nI (i + 1) ∧ ∀ j, j < 5 → a2.2 j = nI (pk5 (fun q => chT ls (k + q)) (i + 1) j)) (fun w => ∀ j, j < 5 → w j = nI (wv (fun q => chT ls (k + q)) j 4)) r) := by
        intro t ht
        have htl : t < 128 := ht ▸ chT_lt ha _
        unfold jL_lays_71
        try dsimp only
        rw [ed, nI_clamp (by omega), hw, em, shor hb (by omega)]
        refine Ok_some ⟨hlt, nI_add _ _, fun j hj => ?_⟩
        show upd aw (i / 4) _ j = _
        by_cases q : j = i / 4
        · rw [q, pk_us]
          congr 1
          unfold pk5
          have e3 : (if i + 1 - 4 * (i / 4) < 4 then i + 1 - 4 * (i / 4) else 4) = i % 4 + 1 := by split <;> omega
          rw [e3, ht]
          show _ = wv _ (i / 4) (i % 4) * 256 + chT ls (k + (4 * (i / 4) + i % 4))
          rw [show 4 * (i / 4) + i % 4 = i by omega]
        · rw [pk_un q, h2 j hj]
          congr 1
          unfold pk5
          congr 1
          split <;> split <;> omega
      rw [if_neg e20, ed, gd_inb (by omega) (by omega), lenTS_h T, Option.bind_some, nI_add]
      by_cases hq : ls.length ≤ k + i
      · rw [if_pos ((nI_leI (by omega) (by omega)).mpr hq)]
        exact hlast 32 (by unfold chT; rw [List.getD_eq_getElem?_getD, List.getElem?_eq_none hq] <;> rfl)
      · rw [if_neg (fun z => hq ((nI_leI (by omega) (by omega)).mp z)), charTS_h T ha (by omega), Option.bind_some, (ch255 _ (chT_lt ha _)).2.2]
        exact hlast _ rfl
    · have e : i = 20 := by omega
      subst e
      rw [if_pos (by decide)]
      refine Ok_some (fun j hj => ?_)
      rw [h2 j hj]
      unfold pk5
      rw [if_neg (by omega)]
end
