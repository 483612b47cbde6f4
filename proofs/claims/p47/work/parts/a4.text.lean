/-! p47, layer 2: the text that the law writes -/
def txR (xs : Nat → Int32) (L r : Nat) : List Nat := sT 11 ++ ((97 + r) :: 32 :: (sT (qM xs L r 0 + 1) ++ (32 :: (dec (qM xs L r 1) ++ (32 :: (dec (qM xs L r 2) ++ (32 :: (dec (qM xs L r 3) ++ [59]))))))))
def txRs (xs : Nat → Int32) (L : Nat) : Nat → List Nat
  | 0 => []
  | k + 1 => txRs xs L k ++ txR xs L k
def txS (xs : Nat → Int32) (L : Nat) : List Nat := sT 12 ++ (dec (qS xs L 0) ++ (sT 13 ++ (dec (qS xs L 1) ++ (sT 14 ++ (dec (qS xs L 2) ++ (32 :: (dec (qS xs L 3) ++ [59])))))))
def txN (xs : Nat → Int32) (L b : Nat) : Nat → List Nat
  | 0 => []
  | w + 1 => txN xs L b w ++ (32 :: dec (qK xs L b w))
def txK (xs : Nat → Int32) (L b : Nat) : List Nat := sT 15 ++ ((97 + b) :: (txN xs L b 6 ++ (if qK xs L b 6 = 1 then sT 16 else sT 17)))
def txKs (xs : Nat → Int32) (L : Nat) : Nat → List Nat
  | 0 => []
  | k + 1 => txKs xs L k ++ txK xs L k
def tX (xs : Nat → Int32) (L : Nat) : List Nat := (txRs xs L (qR xs L) ++ txS xs L) ++ txKs xs L (qB xs L)
theorem chr_k : ∀ k, k < 20 → (((97 : Int32) + nI k).toUInt32 % 65536).toInt32 = nI (97 + k) := by decide +kernel
theorem sT_l : (sT 11).length = 5 ∧ (sT 12).length = 5 ∧ (sT 13).length = 6 ∧ (sT 14).length = 7 ∧ (sT 15).length = 6 ∧ (sT 16).length = 10 ∧ (sT 17).length = 1 := by decide +kernel
theorem sT_k : ∀ k, k < 3 → (sT (k + 1)).length ≤ 5 := by decide +kernel
section
variable {xs : Nat → Int32} {L : Nat}
theorem txR_len (r : Nat) : (txR xs L r).length ≤ 25 := by
  have h1 := sT_l
  have h2 := sT_k (qM xs L r 0) (by have := (qM_rng (xs := xs) (L := L) r).1; omega)
  have d1 := dec_len (qM xs L r 1)
  have d2 := dec_len (qM xs L r 2)
  have d3 := dec_len (qM xs L r 3)
  unfold txR
  simp only [List.length_append, List.length_cons, List.length_nil]
  omega
theorem txRs_len : ∀ k, (txRs xs L k).length ≤ 25 * k := by
  intro k
  induction k with
  | zero => exact Nat.le_refl _
  | succ k ih =>
    have := txR_len (xs := xs) (L := L) k
    show (txRs xs L k ++ txR xs L k).length ≤ _
    rw [List.length_append]
    omega
theorem txN_len (b : Nat) : ∀ w, (txN xs L b w).length ≤ 4 * w := by
  intro w
  induction w with
  | zero => exact Nat.le_refl _
  | succ w ih =>
    have := dec_len (qK xs L b w)
    show (txN xs L b w ++ (32 :: dec (qK xs L b w))).length ≤ _
    rw [List.length_append, List.length_cons]
    omega
theorem txK_len (b : Nat) : (txK xs L b).length ≤ 41 := by
  have h1 := sT_l
  have h2 := txN_len (xs := xs) (L := L) b 6
  unfold txK
  split
  all_goals
    simp only [List.length_append, List.length_cons]
    omega
theorem txKs_len : ∀ k, (txKs xs L k).length ≤ 41 * k := by
  intro k
  induction k with
  | zero => exact Nat.le_refl _
  | succ k ih =>
    have := txK_len (xs := xs) (L := L) k
    show (txKs xs L k ++ txK xs L k).length ≤ _
    rw [List.length_append]
    omega
theorem txS_len : (txS xs L).length ≤ 32 := by
  have h1 := sT_l
  have d0 := dec_len (qS xs L 0)
  have d1 := dec_len (qS xs L 1)
  have d2 := dec_len (qS xs L 2)
  have d3 := dec_len (qS xs L 3)
  unfold txS
  simp only [List.length_append, List.length_cons, List.length_nil]
  omega
def SB3 (a : Nat × (Nat → Int32) × Int32) (ls : List Nat) : Prop := SBr a.1 a.2.1 a.2.2 ls
theorem SB3_eq {a : Nat × (Nat → Int32) × Int32} {ls ls2 : List Nat} (h : SB3 a ls) (e : ls = ls2) : SB3 a ls2 := e ▸ h
theorem roomStep (hL : L ≤ 260) {k : Nat} {a : Int32 × Nat × (Nat → Int32) × Int32} (hk : k ≤ qR xs L) (ha : a.1 = nI k) (H : SB3 a.2 (txRs xs L k)) : OkQ (stT_text_30 xs L a) (fun r => Sum.elim (fun a2 => k < qR xs L ∧ a2.1 = nI (k + 1) ∧ SB3 a2.2 (txRs xs L (k + 1))) (fun b => SB3 b (txRs xs L (qR xs L))) r) := by
  obtain ⟨ai, acap, abf, acn⟩ := a
  try dsimp only at ha H
  subst ha
  have hR := qR_rng (xs := xs) (L := L)
  have hl := txRs_len (xs := xs) (L := L) k
  have h1 := sT_l
  have hm := qM_rng (xs := xs) (L := L) k
  have h2 := sT_k (qM xs L k 0) (by omega)
  have d1 := dec_len (qM xs L k 1)
  have d2 := dec_len (qM xs L k 2)
  have d3 := dec_len (qM xs L k 3)
  unfold stT_text_30
  rw [roomsOf_h hL, Option.bind_some]
  try dsimp only
  by_cases hlt : k < qR xs L
  · rw [if_neg (fun z => by have := (nI_leI (by omega) (by omega)).mp z; omega)]
    refine Ok_bind (sbS_h H (j := 11) (by omega) (by omega)) (fun r3 H3 => ?_)
    rw [chr_k k (by omega)]
    refine Ok_bind (sbC_h H3 (c := 97 + k) (by omega) (by simp only [List.length_append, List.length_cons, List.length_nil]; omega)) (fun r4 H4 => ?_)
    refine Ok_bind (sbC_h H4 (c := 32) (by omega) (by simp only [List.length_append, List.length_cons, List.length_nil]; omega)) (fun r5 H5 => ?_)
    rw [show fL_room xs L (nI k) (0 : Int32) = some (nI (qM xs L k 0)) from room_h hL (i := 0) (by omega) (by omega), Option.bind_some, gd_inb (by omega) (by omega), nI_clamp (by omega)]
    refine Ok_bind (sbS_h H5 (j := qM xs L k 0 + 1) (by omega) (by simp only [List.length_append, List.length_cons, List.length_nil]; omega)) (fun r7 H7 => ?_)
    refine Ok_bind (sbC_h H7 (c := 32) (by omega) (by simp only [List.length_append, List.length_cons, List.length_nil]; omega)) (fun r8 H8 => ?_)
    rw [show fL_room xs L (nI k) (1 : Int32) = some (nI (qM xs L k 1)) from room_h hL (i := 1) (by omega) (by omega), Option.bind_some]
    refine Ok_bind (sbI_h H8 (v := qM xs L k 1) (by omega) (by simp only [List.length_append, List.length_cons, List.length_nil]; omega)) (fun r10 H10 => ?_)
    refine Ok_bind (sbC_h H10 (c := 32) (by omega) (by simp only [List.length_append, List.length_cons, List.length_nil]; omega)) (fun r11 H11 => ?_)
    rw [show fL_room xs L (nI k) (2 : Int32) = some (nI (qM xs L k 2)) from room_h hL (i := 2) (by omega) (by omega), Option.bind_some]
    refine Ok_bind (sbI_h H11 (v := qM xs L k 2) (by omega) (by simp only [List.length_append, List.length_cons, List.length_nil]; omega)) (fun r13 H13 => ?_)
    refine Ok_bind (sbC_h H13 (c := 32) (by omega) (by simp only [List.length_append, List.length_cons, List.length_nil]; omega)) (fun r14 H14 => ?_)
    rw [show fL_room xs L (nI k) (3 : Int32) = some (nI (qM xs L k 3)) from room_h hL (i := 3) (by omega) (by omega), Option.bind_some]
    refine Ok_bind (sbI_h H14 (v := qM xs L k 3) (by omega) (by simp only [List.length_append, List.length_cons, List.length_nil]; omega)) (fun r16 H16 => ?_)
    refine Ok_bind (sbC_h H16 (c := 59) (by omega) (by simp only [List.length_append, List.length_cons, List.length_nil]; omega)) (fun r17 H17 => ?_)
    refine Ok_some ⟨hlt, nI_add _ _, SB3_eq H17 ?_⟩
    show _ = txRs xs L k ++ txR xs L k
    unfold txR
    simp only [List.append_assoc, List.cons_append, List.nil_append]
  · have e : k = qR xs L := by omega
    rw [if_pos (by rw [e]; exact Int32.le_refl _)]
    exact Ok_some (SB3_eq H (by rw [e]))
theorem numStep (hL : L ≤ 260) {b : Nat} (hb : b < 100) {ls : List Nat} (hls : ls.length ≤ 400) {k : Nat} {a183 a : Int32 × Nat × (Nat → Int32) × Int32} (hk : k ≤ 6) (h183 : a183.1 = nI b) (ha : a.1 = nI k) (H : SB3 a.2 (ls ++ txN xs L b k)) : OkQ (stT_text_209 xs L a183 a) (fun r => Sum.elim (fun a2 => k < 6 ∧ a2.1 = nI (k + 1) ∧ SB3 a2.2 (ls ++ txN xs L b (k + 1))) (fun r => SB3 r (ls ++ txN xs L b 6)) r) := by
  obtain ⟨ai, acap, abf, acn⟩ := a
  try dsimp only at ha H
  subst ha
  have hl := txN_len (xs := xs) (L := L) b k
  unfold stT_text_209
  try dsimp only
  by_cases hlt : k < 6
  · rw [if_neg (fun z => by have := (nI_leI (a := 6) (by omega) (by omega)).mp z; omega), h183]
    refine Ok_bind (sbC_h H (c := 32) (by omega) (by simp only [List.length_append]; omega)) (fun r1 H1 => ?_)
    rw [booking_h hL hb (by omega), Option.bind_some]
    have hv : qK xs L b k < 1000 := by
      have := qK_rng (xs := xs) (L := L) b
      have e : k = 0 ∨ k = 1 ∨ k = 2 ∨ k = 3 ∨ k = 4 ∨ k = 5 := by omega
      rcases e with rfl | rfl | rfl | rfl | rfl | rfl <;> omega
    refine Ok_bind (sbI_h H1 hv (by simp only [List.length_append, List.length_cons, List.length_nil]; omega)) (fun r2 H2 => ?_)
    refine Ok_some ⟨hlt, nI_add _ _, SB3_eq H2 ?_⟩
    show _ = ls ++ (txN xs L b k ++ (32 :: dec (qK xs L b k)))
    simp only [List.append_assoc, List.cons_append, List.nil_append]
  · have e : k = 6 := by omega
    subst e
    rw [if_pos (by decide)]
    exact Ok_some H
theorem bookStep (hL : L ≤ 260) {ls : List Nat} (hls : ls.length ≤ 132) {k : Nat} {a : Int32 × Nat × (Nat → Int32) × Int32} (hk : k ≤ qB xs L) (ha : a.1 = nI k) (H : SB3 a.2 (ls ++ txKs xs L k)) : OkQ (stT_text_183 xs L a) (fun r => Sum.elim (fun a2 => k < qB xs L ∧ a2.1 = nI (k + 1) ∧ SB3 a2.2 (ls ++ txKs xs L (k + 1))) (fun r => SB3 r (ls ++ txKs xs L (qB xs L))) r) := by
  obtain ⟨ai, acap, abf, acn⟩ := a
  try dsimp only at ha H
  subst ha
  have hB := qB_rng (xs := xs) (L := L)
  have hl := txKs_len (xs := xs) (L := L) k
  have hl2 := txN_len (xs := xs) (L := L) k 6
  have h1 := sT_l
  unfold stT_text_183
  rw [bookingsOf_h hL, Option.bind_some]
  try dsimp only
  by_cases hlt : k < qB xs L
  · rw [if_neg (fun z => by have := (nI_leI (by omega) (by omega)).mp z; omega)]
    refine Ok_bind (sbS_h H (j := 15) (by omega) (by simp only [List.length_append]; omega)) (fun r3 H3 => ?_)
    rw [chr_k k (by omega)]
    refine Ok_bind (sbC_h H3 (c := 97 + k) (by omega) (by simp only [List.length_append, List.length_cons, List.length_nil]; omega)) (fun r4 H4 => ?_)
    refine Ok_bind (Q := fun r => SB3 r (((ls ++ txKs xs L k ++ sT 15) ++ [97 + k]) ++ txN xs L k 6)) ?_ (fun r5 H5 => ?_)
    · exact loop_Ok (fun (w : Nat) (a2 : Int32 × Nat × (Nat → Int32) × Int32) => a2.1 = nI w ∧ SB3 a2.2 (((ls ++ txKs xs L k ++ sT 15) ++ [97 + k]) ++ txN xs L k w)) 6 (fun w a2 hw hI => numStep hL (by omega) (by simp only [List.length_append, List.length_cons, List.length_nil]; omega) hw rfl hI.1 hI.2) 8 0 ((0 : Int32), r4.1, r4.2.1, r4.2.2) (by omega) (by omega) ⟨rfl, SB3_eq H4 (by show _ = _ ++ []; rw [List.append_nil])⟩
    · rw [show fL_booking xs L (nI k) (6 : Int32) = some (nI (qK xs L k 6)) from booking_h hL (i := 6) (by omega) (by omega), Option.bind_some]
      have h61 := (qK_rng (xs := xs) (L := L) k).2.2.2.2.2.2
      by_cases h6 : qK xs L k 6 = 1
      · rw [h6, if_neg (fun z => z rfl)]
        refine Ok_bind (sbS_h H5 (j := 16) (by omega) (by simp only [List.length_append, List.length_cons, List.length_nil]; omega)) (fun r6 H6 => ?_)
        refine Ok_some ⟨hlt, nI_add _ _, SB3_eq H6 ?_⟩
        show _ = ls ++ (txKs xs L k ++ txK xs L k)
        unfold txK
        rw [if_pos h6]
        simp only [List.append_assoc, List.cons_append, List.nil_append]
      · have hne : ¬ nI (qK xs L k 6) = (1 : Int32) := nI_ne (b := 1) (by omega) (by omega) h6
        rw [if_pos hne]
        refine Ok_bind (sbS_h H5 (j := 17) (by omega) (by simp only [List.length_append, List.length_cons, List.length_nil]; omega)) (fun r6 H6 => ?_)
        refine Ok_some ⟨hlt, nI_add _ _, SB3_eq H6 ?_⟩
        show _ = ls ++ (txKs xs L k ++ txK xs L k)
        unfold txK
        rw [if_neg h6]
        simp only [List.append_assoc, List.cons_append, List.nil_append]
  · have e : k = qB xs L := by omega
    rw [if_pos (by rw [e]; exact Int32.le_refl _)]
    exact Ok_some (SB3_eq H (by rw [e]))
theorem text_h (hL : L ≤ 260) : OkQ (fT_text xs L) (fun r => TXr r.1 r.2 (tX xs L)) := by
  have hR := qR_rng (xs := xs) (L := L)
  have hB := qB_rng (xs := xs) (L := L)
  have hs := qS_rng (xs := xs) (L := L)
  have hl := txRs_len (xs := xs) (L := L) (qR xs L)
  have hls := txS_len (xs := xs) (L := L)
  have h1 := sT_l
  have d0 := dec_len (qS xs L 0)
  have d1 := dec_len (qS xs L 1)
  have d2 := dec_len (qS xs L 2)
  have d3 := dec_len (qS xs L 3)
  unfold fT_text
  refine Ok_bind sbIn_h (fun r1 H1 => ?_)
  refine Ok_bind (Q := fun r => SB3 r (txRs xs L (qR xs L))) ?_ (fun r2 H2 => ?_)
  · exact loop_Ok (fun (w : Nat) (a2 : Int32 × Nat × (Nat → Int32) × Int32) => a2.1 = nI w ∧ SB3 a2.2 (txRs xs L w)) (qR xs L) (fun w a2 hw hI => roomStep hL hw hI.1 hI.2) 6 0 ((0 : Int32), r1.1, r1.2, (0 : Int32)) (by omega) (by omega) ⟨rfl, H1⟩
  refine Ok_bind (sbS_h H2 (j := 12) (by omega) (by omega)) (fun r3 H3 => ?_)
  rw [show fL_setting xs L (0 : Int32) = some (nI (qS xs L 0)) from setting_h hL (i := 0) (by omega), Option.bind_some]
  refine Ok_bind (sbI_h H3 (v := qS xs L 0) (by omega) (by simp only [List.length_append, List.length_cons, List.length_nil]; omega)) (fun r4 H4 => ?_)
  refine Ok_bind (sbS_h H4 (j := 13) (by omega) (by simp only [List.length_append, List.length_cons, List.length_nil]; omega)) (fun r5 H5 => ?_)
  rw [show fL_setting xs L (1 : Int32) = some (nI (qS xs L 1)) from setting_h hL (i := 1) (by omega), Option.bind_some]
  refine Ok_bind (sbI_h H5 (v := qS xs L 1) (by omega) (by simp only [List.length_append, List.length_cons, List.length_nil]; omega)) (fun r6 H6 => ?_)
  refine Ok_bind (sbS_h H6 (j := 14) (by omega) (by simp only [List.length_append, List.length_cons, List.length_nil]; omega)) (fun r7 H7 => ?_)
  rw [show fL_setting xs L (2 : Int32) = some (nI (qS xs L 2)) from setting_h hL (i := 2) (by omega), Option.bind_some]
  refine Ok_bind (sbI_h H7 (v := qS xs L 2) (by omega) (by simp only [List.length_append, List.length_cons, List.length_nil]; omega)) (fun r8 H8 => ?_)
  refine Ok_bind (sbC_h H8 (c := 32) (by omega) (by simp only [List.length_append, List.length_cons, List.length_nil]; omega)) (fun r9 H9 => ?_)
  rw [show fL_setting xs L (3 : Int32) = some (nI (qS xs L 3)) from setting_h hL (i := 3) (by omega), Option.bind_some]
  refine Ok_bind (sbI_h H9 (v := qS xs L 3) (by omega) (by simp only [List.length_append, List.length_cons, List.length_nil]; omega)) (fun r10 H10 => ?_)
  refine Ok_bind (sbC_h H10 (c := 59) (by omega) (by simp only [List.length_append, List.length_cons, List.length_nil]; omega)) (fun r11 H11 => ?_)
  have H12 : SB3 r11 (txRs xs L (qR xs L) ++ txS xs L) := SB3_eq H11 (by
    unfold txS
    simp only [List.append_assoc, List.cons_append, List.nil_append])
  refine Ok_bind (Q := fun r => SB3 r (tX xs L)) ?_ (fun r12 H13 => ?_)
  · exact loop_Ok (fun (w : Nat) (a2 : Int32 × Nat × (Nat → Int32) × Int32) => a2.1 = nI w ∧ SB3 a2.2 ((txRs xs L (qR xs L) ++ txS xs L) ++ txKs xs L w)) (qB xs L) (fun w a2 hw hI => bookStep hL (by rw [List.length_append]; omega) hw hI.1 hI.2) 9 0 ((0 : Int32), r11.1, r11.2.1, r11.2.2) (by omega) (by omega) ⟨rfl, SB3_eq H12 (by show _ = _ ++ []; rw [List.append_nil])⟩
  refine Ok_bind (sbStr_h H13) (fun r13 H14 => ?_)
  exact Ok_some H14
end
