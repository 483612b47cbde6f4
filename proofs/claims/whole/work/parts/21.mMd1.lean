def fX6_more (p1 : Int64) (p2 : Int32) : Option (Int64) := (if ¬ p2 = 0 then (some ((((32 : Int64) * p1) + p2.toInt64) - (96 : Int64))) else (some p1))
set_option maxHeartbeats 4000000 in
set_option maxRecDepth 100000 in
theorem okX6_more (l : Launch) (cy : Nat → ClassId) (D : va_G) (B : Nat) (ek : EK) (p1 : Int64) (p2 : Int32) (σ μ ω : Mem) (res : Int64) (h : fX6_more p1 p2 = some res) : CT l cy D B ek yX6_more cX6_more 3 (some .long) ({ frames := 0, cells := 0, slots := 0, locals := 0 } : Room) [.long p1, .int p2] σ μ ω (some (.long res)) σ μ ω := by
  refine met_X (own := "HostelBedsModel") (by decide) rfl (Nat.le_of_ble_eq_true rfl) ?_
  intro p e s m args below meth c C hrT hlk
  have hret : ∀ (pc9 : Nat) (lcs9 : List (Nat × Value)), decode cX6_more pc9 = .ok (.lreturn, 1) → X p l e ({ frames := 0, cells := 0, slots := 0, locals := 0 } : Room) s m args below meth c 3 cy D B 0 0 (MQ below (QR cy D B (some (.long res)) σ μ ω) args s 0 0 (aB B)) pc9 lcs9 [.long res] σ μ ω := fun _ _ hd => x_lret C hrT hlk hd
  generalize (MQ below (QR cy D B (some (.long res)) σ μ ω) args s 0 0 (aB B)) = Q at hret ⊢
  obtain ⟨R, hR9⟩ : ∃ R : Room, R = ({ frames := 0, cells := 0, slots := 0, locals := 0 } : Room) := ⟨_, rfl⟩
  rw [← hR9] at hret ⊢
  unfold fX6_more at h
  show X p l e R s m args below meth c 3 cy D B 0 0 Q 0 [(0, .long p1), (2, .int p2)] [] σ μ ω
  refine x_iload_n C dX6_more_0 rfl 1 rfl ?_
  refine x_if_ne C (tgt := 8) dX6_more_1 (by decide) (fun hc1 => ?_) (fun hc1 => ?_)
  · rw [if_pos hc1] at h
    refine x_ldc2 C (v := 32) (lw_g_mk tw_1261 rfl) dX6_more_8 ?_
    refine x_lload_n C dX6_more_11 rfl 0 rfl ?_
    refine x_lmul C dX6_more_12 ?_
    refine x_iload_n C dX6_more_13 rfl 1 rfl ?_
    refine x_i2l C dX6_more_14 ?_
    refine x_ladd C dX6_more_15 ?_
    refine x_ldc2 C (v := 96) (lw_g_mk tw_1285 rfl) dX6_more_16 ?_
    refine x_lsub C dX6_more_19 ?_
    cases h
    exact hret _ _ dX6_more_20
  · rw [if_neg hc1] at h
    refine x_lload_n C dX6_more_4 rfl 0 rfl ?_
    refine x_goto C (tgt := 20) dX6_more_5 (by decide) ?_
    cases h
    exact hret _ _ dX6_more_20
def fX6_spelled (p1 : Int32) (p2 : Int32) (p3 : Int32) (p4 : Int32) (p5 : Int32) (p6 : Int32) (p7 : Int32) : Option (Int64) := ((fX6_more (0 : Int64) p1).bind fun q1 => ((fX6_more q1 p2).bind fun q2 => ((fX6_more q2 p3).bind fun q3 => ((fX6_more q3 p4).bind fun q4 => ((fX6_more q4 p5).bind fun q5 => ((fX6_more q5 p6).bind fun q6 => ((fX6_more q6 p7).bind fun q7 => (some q7))))))))
set_option maxHeartbeats 4000000 in
set_option maxRecDepth 100000 in
theorem okX6_spelled (l : Launch) (cy : Nat → ClassId) (D : va_G) (B : Nat) (ek : EK) (p1 : Int32) (p2 : Int32) (p3 : Int32) (p4 : Int32) (p5 : Int32) (p6 : Int32) (p7 : Int32) (σ μ ω : Mem) (res : Int64) (h : fX6_spelled p1 p2 p3 p4 p5 p6 p7 = some res) : CT l cy D B ek yX6_spelled cX6_spelled 9 (some .long) ({ frames := 1, cells := 0, slots := 0, locals := 22 } : Room) [.int p1, .int p2, .int p3, .int p4, .int p5, .int p6, .int p7] σ μ ω (some (.long res)) σ μ ω := by
  refine met_X (own := "HostelBedsModel") (by decide) rfl (Nat.le_of_ble_eq_true rfl) ?_
  intro p e s m args below meth c C hrT hlk
  have hret : ∀ (pc9 : Nat) (lcs9 : List (Nat × Value)), decode cX6_spelled pc9 = .ok (.lreturn, 1) → X p l e ({ frames := 1, cells := 0, slots := 0, locals := 22 } : Room) s m args below meth c 9 cy D B 0 0 (MQ below (QR cy D B (some (.long res)) σ μ ω) args s 0 0 (aB B)) pc9 lcs9 [.long res] σ μ ω := fun _ _ hd => x_lret C hrT hlk hd
  generalize (MQ below (QR cy D B (some (.long res)) σ μ ω) args s 0 0 (aB B)) = Q at hret ⊢
  obtain ⟨R, hR9⟩ : ∃ R : Room, R = ({ frames := 1, cells := 0, slots := 0, locals := 22 } : Room) := ⟨_, rfl⟩
  rw [← hR9] at hret ⊢
  unfold fX6_spelled at h
  show X p l e R s m args below meth c 9 cy D B 0 0 Q 0 [(0, .int p1), (1, .int p2), (2, .int p3), (3, .int p4), (4, .int p5), (5, .int p6), (6, .int p7)] [] σ μ ω
  refine x_lconst C (v := 0) dX6_spelled_0 (by decide) ?_
  refine x_iload_n C dX6_spelled_1 rfl 0 rfl ?_
  obtain ⟨q1, hk1, h⟩ := Option.bind_eq_some_iff.mp h
  refine x_callS C (As := [.long (0 : Int64), .int p1]) (rest := []) (lw_g_mk tw_1283 rfl) (okX6_more l cy D B ek (0 : Int64) p1 σ μ ω _ hk1) rfl rfl (by rw [hR9]; decide) (lw_g_mk tw_1284 rfl) (lw_g_mk tw_7 rfl) (by decide) rfl (lw_g_mk tw_1282 rfl) rfl (Nat.le_of_ble_eq_true rfl) dX6_spelled_2 (by rw [hR9]; decide) ?_
  refine x_iload_n C dX6_spelled_5 rfl 1 rfl ?_
  obtain ⟨q2, hk2, h⟩ := Option.bind_eq_some_iff.mp h
  refine x_callS C (As := [.long q1, .int p2]) (rest := []) (lw_g_mk tw_1283 rfl) (okX6_more l cy D B ek q1 p2 σ μ ω _ hk2) rfl rfl (by rw [hR9]; decide) (lw_g_mk tw_1284 rfl) (lw_g_mk tw_7 rfl) (by decide) rfl (lw_g_mk tw_1282 rfl) rfl (Nat.le_of_ble_eq_true rfl) dX6_spelled_6 (by rw [hR9]; decide) ?_
  refine x_iload_n C dX6_spelled_9 rfl 2 rfl ?_
  obtain ⟨q3, hk3, h⟩ := Option.bind_eq_some_iff.mp h
  refine x_callS C (As := [.long q2, .int p3]) (rest := []) (lw_g_mk tw_1283 rfl) (okX6_more l cy D B ek q2 p3 σ μ ω _ hk3) rfl rfl (by rw [hR9]; decide) (lw_g_mk tw_1284 rfl) (lw_g_mk tw_7 rfl) (by decide) rfl (lw_g_mk tw_1282 rfl) rfl (Nat.le_of_ble_eq_true rfl) dX6_spelled_10 (by rw [hR9]; decide) ?_
  refine x_iload_n C dX6_spelled_13 rfl 3 rfl ?_
  obtain ⟨q4, hk4, h⟩ := Option.bind_eq_some_iff.mp h
  refine x_callS C (As := [.long q3, .int p4]) (rest := []) (lw_g_mk tw_1283 rfl) (okX6_more l cy D B ek q3 p4 σ μ ω _ hk4) rfl rfl (by rw [hR9]; decide) (lw_g_mk tw_1284 rfl) (lw_g_mk tw_7 rfl) (by decide) rfl (lw_g_mk tw_1282 rfl) rfl (Nat.le_of_ble_eq_true rfl) dX6_spelled_14 (by rw [hR9]; decide) ?_
  refine x_lstore C [(7, .long q4), (0, .int p1), (1, .int p2), (2, .int p3), (3, .int p4), (4, .int p5), (5, .int p6), (6, .int p7)] dX6_spelled_17 (by decide) rfl ?_
  refine x_lload C dX6_spelled_19 0 rfl ?_
  refine x_iload C dX6_spelled_21 5 rfl ?_
  obtain ⟨q5, hk5, h⟩ := Option.bind_eq_some_iff.mp h
  refine x_callS C (As := [.long q4, .int p5]) (rest := []) (lw_g_mk tw_1283 rfl) (okX6_more l cy D B ek q4 p5 σ μ ω _ hk5) rfl rfl (by rw [hR9]; decide) (lw_g_mk tw_1284 rfl) (lw_g_mk tw_7 rfl) (by decide) rfl (lw_g_mk tw_1282 rfl) rfl (Nat.le_of_ble_eq_true rfl) dX6_spelled_23 (by rw [hR9]; decide) ?_
  refine x_iload C dX6_spelled_26 6 rfl ?_
  obtain ⟨q6, hk6, h⟩ := Option.bind_eq_some_iff.mp h
  refine x_callS C (As := [.long q5, .int p6]) (rest := []) (lw_g_mk tw_1283 rfl) (okX6_more l cy D B ek q5 p6 σ μ ω _ hk6) rfl rfl (by rw [hR9]; decide) (lw_g_mk tw_1284 rfl) (lw_g_mk tw_7 rfl) (by decide) rfl (lw_g_mk tw_1282 rfl) rfl (Nat.le_of_ble_eq_true rfl) dX6_spelled_28 (by rw [hR9]; decide) ?_
  refine x_iload C dX6_spelled_31 7 rfl ?_
  obtain ⟨q7, hk7, h⟩ := Option.bind_eq_some_iff.mp h
  refine x_callS C (As := [.long q6, .int p7]) (rest := []) (lw_g_mk tw_1283 rfl) (okX6_more l cy D B ek q6 p7 σ μ ω _ hk7) rfl rfl (by rw [hR9]; decide) (lw_g_mk tw_1284 rfl) (lw_g_mk tw_7 rfl) (by decide) rfl (lw_g_mk tw_1282 rfl) rfl (Nat.le_of_ble_eq_true rfl) dX6_spelled_33 (by rw [hR9]; decide) ?_
  cases h
  exact hret _ _ dX6_spelled_36
def jX6_isWord_21 : Option (Int32) := (some ((0 : Int32)))
def fX6_isWord (p1 : Int64) (μ : Mem) : Option (Int32) := (if ¬ (rI μ 73 0 0) = (1 : Int32) then (jX6_isWord_21) else (if ¬ (lg_cmp (rJ μ 10 0 0) p1) = 0 then (jX6_isWord_21) else (some ((1 : Int32)))))
set_option maxHeartbeats 4000000 in
set_option maxRecDepth 100000 in
theorem okX6_isWord (l : Launch) (cy : Nat → ClassId) (D : va_G) (B : Nat) (ek : EK) (p1 : Int64) (σ μ ω : Mem) (res : Int32) (h : fX6_isWord p1 μ = some res) : CT l cy D B ek yX6_isWord cX6_isWord 3 (some .boolean) ({ frames := 0, cells := 0, slots := 0, locals := 0 } : Room) [.ref (B + oMd), .long p1] σ μ ω (some (.int res)) σ μ ω := by
  refine met_X (own := "HostelBedsModel") (by decide) rfl (Nat.le_of_ble_eq_true rfl) ?_
  intro p e s m args below meth c C hrT hlk
  have hret : ∀ (pc9 : Nat) (lcs9 : List (Nat × Value)), decode cX6_isWord pc9 = .ok (.ireturn, 1) → narrow .boolean (.int res) = .int res → X p l e ({ frames := 0, cells := 0, slots := 0, locals := 0 } : Room) s m args below meth c 3 cy D B 0 0 (MQ below (QR cy D B (some (.int res)) σ μ ω) args s 0 0 (aB B)) pc9 lcs9 [.int res] σ μ ω := fun _ _ hd hn => x_zret C hrT hlk hn hd
  generalize (MQ below (QR cy D B (some (.int res)) σ μ ω) args s 0 0 (aB B)) = Q at hret ⊢
  obtain ⟨R, hR9⟩ : ∃ R : Room, R = ({ frames := 0, cells := 0, slots := 0, locals := 0 } : Room) := ⟨_, rfl⟩
  rw [← hR9] at hret ⊢
  unfold fX6_isWord at h
  show X p l e R s m args below meth c 3 cy D B 0 0 Q 0 [(0, .ref (B + oMd)), (1, .long p1)] [] σ μ ω
  refine x_aload_n C dX6_isWord_0 rfl 0 rfl ?_
  refine x_get C (C1 := "HostelBedsModel") (T := TX6) (N := 27) (ci := 6) inXg6 _ (c_Md) rfl 17 (by decide) (lw_g_mk tw_1148 rfl) rfl dX6_isWord_1 ?_
  refine x_iconst C (v := 1) dX6_isWord_4 (by decide) ?_
  have hJ1 : ∀ (r9 : Int32), jX6_isWord_21 = some r9 → (∀ (pc9 : Nat) (lcs9 : List (Nat × Value)), decode cX6_isWord pc9 = .ok (.ireturn, 1) → narrow .boolean (.int r9) = .int r9 → X p l e R s m args below meth c 3 cy D B 0 0 Q pc9 lcs9 [.int r9] σ μ ω) → X p l e R s m args below meth c 3 cy D B 0 0 Q 21 [] [] σ μ ω := by
    intro res9 h hret
    unfold jX6_isWord_21 at h
    refine x_iconst C (v := 0) dX6_isWord_21 (by decide) ?_
    cases h
    exact hret _ _ dX6_isWord_22 (nar_Z (Or.inl rfl))
  refine x_icmp_ne C (tgt := 21) dX6_isWord_5 (by decide) (fun hc2 => ?_) (fun hc2 => ?_)
  · rw [if_pos hc2] at h
    refine x_sub [] rfl ?_
    exact hJ1 _ h hret
  · rw [if_neg hc2] at h
    refine x_aload_n C dX6_isWord_8 rfl 0 rfl ?_
    refine x_get C (C1 := "HostelBedsModel") (T := TX6) (N := 27) (ci := 6) inXg6 _ (c_Md) rfl 19 (by decide) (lw_g_mk tw_1150 rfl) rfl dX6_isWord_9 ?_
    refine x_lload_n C dX6_isWord_12 rfl 1 rfl ?_
    refine x_lcmp C dX6_isWord_13 ?_
    refine x_if_ne C (tgt := 21) dX6_isWord_14 (by decide) (fun hc3 => ?_) (fun hc3 => ?_)
    · rw [if_pos hc3] at h
      refine x_sub [] rfl ?_
      exact hJ1 _ h hret
    · rw [if_neg hc3] at h
      refine x_iconst C (v := 1) dX6_isWord_17 (by decide) ?_
      refine x_goto C (tgt := 22) dX6_isWord_18 (by decide) ?_
      cases h
      exact hret _ _ dX6_isWord_22 (nar_Z (Or.inr rfl))
def jX6_readValue_26 (μ : Mem) (t1 : Int32) : Option (Int32 × Mem) := ((fX6_must t1 μ).bind fun q2 => ((fX6_isWell q2).bind fun q3 => (if ¬ q3 = 0 then ((fX6_readToken q2).bind fun q4 => (some (rI q2 74 0 0, q4))) else (some ((0 : Int32), q2)))))
def jX6_readValue_25 (μ : Mem) : Option (Int32 × Mem) := (jX6_readValue_26 μ (0 : Int32))
def fX6_readValue (p1 : Int32) (p2 : Int32) (μ : Mem) : Option (Int32 × Mem) := (if ¬ (rI μ 73 0 0) = (2 : Int32) then (jX6_readValue_25 μ) else ((fX6_isIn (rI μ 74 0 0) p1 p2).bind fun q5 => (if q5 = 0 then (jX6_readValue_25 μ) else (jX6_readValue_26 μ (1 : Int32)))))
set_option maxHeartbeats 4000000 in
set_option maxRecDepth 100000 in
theorem okX6_readValue (l : Launch) (cy : Nat → ClassId) (D : va_G) (B : Nat) (ek : EK) (p1 : Int32) (p2 : Int32) (σ μ ω : Mem) (res : Int32 × Mem) (h : fX6_readValue p1 p2 μ = some res) : CT l cy D B ek yX6_readValue cX6_readValue 4 (some .int) ({ frames := 4, cells := 0, slots := 0, locals := 84 } : Room) [.ref (B + oMd), .int p1, .int p2] σ μ ω (some (.int res.1)) σ res.2 ω := by
  refine met_X (own := "HostelBedsModel") (by decide) rfl (Nat.le_of_ble_eq_true rfl) ?_
  intro p e s m args below meth c C hrT hlk
  have hret : ∀ (pc9 : Nat) (lcs9 : List (Nat × Value)), decode cX6_readValue pc9 = .ok (.ireturn, 1) → narrow .int (.int res.1) = .int res.1 → X p l e ({ frames := 4, cells := 0, slots := 0, locals := 84 } : Room) s m args below meth c 4 cy D B 0 0 (MQ below (QR cy D B (some (.int res.1)) σ res.2 ω) args s 0 0 (aB B)) pc9 lcs9 [.int res.1] σ res.2 ω := fun _ _ hd hn => x_zret C hrT hlk hn hd
  generalize (MQ below (QR cy D B (some (.int res.1)) σ res.2 ω) args s 0 0 (aB B)) = Q at hret ⊢
  obtain ⟨R, hR9⟩ : ∃ R : Room, R = ({ frames := 4, cells := 0, slots := 0, locals := 84 } : Room) := ⟨_, rfl⟩
  rw [← hR9] at hret ⊢
  unfold fX6_readValue at h
  show X p l e R s m args below meth c 4 cy D B 0 0 Q 0 [(0, .ref (B + oMd)), (1, .int p1), (2, .int p2)] [] σ μ ω
  refine x_aload_n C dX6_readValue_0 rfl 0 rfl ?_
  refine x_aload_n C dX6_readValue_1 rfl 0 rfl ?_
  refine x_get C (C1 := "HostelBedsModel") (T := TX6) (N := 27) (ci := 6) inXg6 _ (c_Md) rfl 17 (by decide) (lw_g_mk tw_1148 rfl) rfl dX6_readValue_2 ?_
  refine x_iconst C (v := 2) dX6_readValue_5 (by decide) ?_
  have hJ5 : ∀ (t1 : Int32) (r9 : Int32 × Mem), jX6_readValue_26 μ t1 = some r9 → (∀ (pc9 : Nat) (lcs9 : List (Nat × Value)), decode cX6_readValue pc9 = .ok (.ireturn, 1) → narrow .int (.int r9.1) = .int r9.1 → X p l e R s m args below meth c 4 cy D B 0 0 Q pc9 lcs9 [.int r9.1] σ r9.2 ω) → X p l e R s m args below meth c 4 cy D B 0 0 Q 26 [(0, .ref (B + oMd))] [.int t1, .ref (B + oMd)] σ μ ω := by
    intro t1 res9 h hret
    unfold jX6_readValue_26 at h
    obtain ⟨q2, hk1, h⟩ := Option.bind_eq_some_iff.mp h
    refine x_callV C (As := [.int t1]) (rest := []) (lw_g_mk tw_1300 rfl) (lw_g_mk tsel_32 rfl) (c_Md) (C1 := "HostelBedsModel") (T := TX6) (N := 27) (ci := 6) rfl (okX6_must l cy D B ek t1 σ μ ω _ hk1) rfl rfl (by rw [hR9]; decide) (lw_g_mk tw_1301 rfl) (lw_g_mk tw_7 rfl) (by decide) rfl (lw_g_mk tw_1298 rfl) rfl (Nat.le_of_ble_eq_true rfl) dX6_readValue_26 (by rw [hR9]; decide) ?_
    refine x_aload_n C dX6_readValue_29 rfl 0 rfl ?_
    obtain ⟨q3, hk2, h⟩ := Option.bind_eq_some_iff.mp h
    refine x_callV C (As := []) (rest := []) (lw_g_mk tw_1273 rfl) (lw_g_mk tsel_27 rfl) (c_Md) (C1 := "HostelBedsModel") (T := TX6) (N := 27) (ci := 6) rfl (okX6_isWell l cy D B ek σ q2 ω _ hk2) rfl rfl (by rw [hR9]; decide) (lw_g_mk tw_1274 rfl) (lw_g_mk tw_7 rfl) (by decide) rfl (lw_g_mk tw_1271 rfl) rfl (Nat.le_of_ble_eq_true rfl) dX6_readValue_30 (by rw [hR9]; decide) ?_
    refine x_if_ne C (tgt := 38) dX6_readValue_33 (by decide) (fun hc3 => ?_) (fun hc3 => ?_)
    · rw [if_pos hc3] at h
      refine x_aload_n C dX6_readValue_38 rfl 0 rfl ?_
      refine x_get C (C1 := "HostelBedsModel") (T := TX6) (N := 27) (ci := 6) inXg6 _ (c_Md) rfl 18 (by decide) (lw_g_mk tw_1149 rfl) rfl dX6_readValue_39 ?_
      refine x_istore_n C [(3, .int (rI q2 74 0 0)), (0, .ref (B + oMd))] dX6_readValue_42 rfl (by decide) rfl ?_
      refine x_aload_n C dX6_readValue_43 rfl 1 rfl ?_
      obtain ⟨q4, hk4, h⟩ := Option.bind_eq_some_iff.mp h
      refine x_callV C (As := []) (rest := []) (lw_g_mk tw_1243 rfl) (lw_g_mk tsel_20 rfl) (c_Md) (C1 := "HostelBedsModel") (T := TX6) (N := 27) (ci := 6) rfl (okX6_readToken l cy D B ek σ q2 ω _ hk4) rfl rfl (by rw [hR9]; decide) (lw_g_mk tw_1244 rfl) (lw_g_mk tw_7 rfl) (by decide) rfl (lw_g_mk tw_1241 rfl) rfl (Nat.le_of_ble_eq_true rfl) dX6_readValue_44 (by rw [hR9]; decide) ?_
      refine x_iload_n C dX6_readValue_47 rfl 0 rfl ?_
      cases h
      exact hret _ _ dX6_readValue_48 rfl
    · rw [if_neg hc3] at h
      refine x_iconst C (v := 0) dX6_readValue_36 (by decide) ?_
      cases h
      exact hret _ _ dX6_readValue_37 rfl
  have hJ6 : ∀ (r9 : Int32 × Mem), jX6_readValue_25 μ = some r9 → (∀ (pc9 : Nat) (lcs9 : List (Nat × Value)), decode cX6_readValue pc9 = .ok (.ireturn, 1) → narrow .int (.int r9.1) = .int r9.1 → X p l e R s m args below meth c 4 cy D B 0 0 Q pc9 lcs9 [.int r9.1] σ r9.2 ω) → X p l e R s m args below meth c 4 cy D B 0 0 Q 25 [(0, .ref (B + oMd))] [.ref (B + oMd)] σ μ ω := by
    intro res9 h hret
    unfold jX6_readValue_25 at h
    refine x_iconst C (v := 0) dX6_readValue_25 (by decide) ?_
    exact hJ5 (0 : Int32) _ h hret
  refine x_icmp_ne C (tgt := 25) dX6_readValue_6 (by decide) (fun hc7 => ?_) (fun hc7 => ?_)
  · rw [if_pos hc7] at h
    refine x_sub [0] rfl ?_
    exact hJ6 _ h hret
  · rw [if_neg hc7] at h
    refine x_aload_n C dX6_readValue_9 rfl 0 rfl ?_
    refine x_get C (C1 := "HostelBedsModel") (T := TX6) (N := 27) (ci := 6) inXg6 _ (c_Md) rfl 18 (by decide) (lw_g_mk tw_1149 rfl) rfl dX6_readValue_10 ?_
    refine x_iload_n C dX6_readValue_13 rfl 1 rfl ?_
    refine x_iload_n C dX6_readValue_14 rfl 2 rfl ?_
    obtain ⟨q5, hk8, h⟩ := Option.bind_eq_some_iff.mp h
    refine x_callS C (As := [.int (rI μ 74 0 0), .int p1, .int p2]) (rest := [.ref (B + oMd)]) (lw_g_mk tw_1235 rfl) (okX6_isIn l cy D B ek (rI μ 74 0 0) p1 p2 σ μ ω _ hk8) rfl rfl (by rw [hR9]; decide) (lw_g_mk tw_1236 rfl) (lw_g_mk tw_7 rfl) (by decide) rfl (lw_g_mk tw_1234 rfl) rfl (Nat.le_of_ble_eq_true rfl) dX6_readValue_15 (by rw [hR9]; decide) ?_
    refine x_if_eq C (tgt := 25) dX6_readValue_18 (by decide) (fun hc9 => ?_) (fun hc9 => ?_)
    · rw [if_pos hc9] at h
      refine x_sub [0] rfl ?_
      exact hJ6 _ h hret
    · rw [if_neg hc9] at h
      refine x_iconst C (v := 1) dX6_readValue_21 (by decide) ?_
      refine x_goto C (tgt := 26) dX6_readValue_22 (by decide) ?_
      refine x_sub [0] rfl ?_
      exact hJ5 (1 : Int32) _ h hret
def fX6_kindHere (μ : Mem) : Option (Int32) := ((fX6_spelled (109 : Int32) (105 : Int32) (120 : Int32) (101 : Int32) (100 : Int32) (0 : Int32) (0 : Int32)).bind fun q1 => ((fX6_isWord q1 μ).bind fun q2 => (if q2 = 0 then ((fX6_spelled (119 : Int32) (111 : Int32) (109 : Int32) (101 : Int32) (110 : Int32) (0 : Int32) (0 : Int32)).bind fun q3 => ((fX6_isWord q3 μ).bind fun q4 => (if q4 = 0 then ((fX6_spelled (109 : Int32) (101 : Int32) (110 : Int32) (0 : Int32) (0 : Int32) (0 : Int32) (0 : Int32)).bind fun q5 => ((fX6_isWord q5 μ).bind fun q6 => (if q6 = 0 then (some ((-1 : Int32))) else (some ((2 : Int32)))))) else (some ((1 : Int32)))))) else (some ((0 : Int32))))))
set_option maxHeartbeats 4000000 in
set_option maxRecDepth 100000 in
theorem okX6_kindHere (l : Launch) (cy : Nat → ClassId) (D : va_G) (B : Nat) (ek : EK) (σ μ ω : Mem) (res : Int32) (h : fX6_kindHere μ = some res) : CT l cy D B ek yX6_kindHere cX6_kindHere 1 (some .int) ({ frames := 2, cells := 0, slots := 0, locals := 50 } : Room) [.ref (B + oMd)] σ μ ω (some (.int res)) σ μ ω := by
  refine met_X (own := "HostelBedsModel") (by decide) rfl (Nat.le_of_ble_eq_true rfl) ?_
  intro p e s m args below meth c C hrT hlk
  have hret : ∀ (pc9 : Nat) (lcs9 : List (Nat × Value)), decode cX6_kindHere pc9 = .ok (.ireturn, 1) → narrow .int (.int res) = .int res → X p l e ({ frames := 2, cells := 0, slots := 0, locals := 50 } : Room) s m args below meth c 1 cy D B 0 0 (MQ below (QR cy D B (some (.int res)) σ μ ω) args s 0 0 (aB B)) pc9 lcs9 [.int res] σ μ ω := fun _ _ hd hn => x_zret C hrT hlk hn hd
  generalize (MQ below (QR cy D B (some (.int res)) σ μ ω) args s 0 0 (aB B)) = Q at hret ⊢
  obtain ⟨R, hR9⟩ : ∃ R : Room, R = ({ frames := 2, cells := 0, slots := 0, locals := 50 } : Room) := ⟨_, rfl⟩
  rw [← hR9] at hret ⊢
  unfold fX6_kindHere at h
  show X p l e R s m args below meth c 1 cy D B 0 0 Q 0 [(0, .ref (B + oMd))] [] σ μ ω
  refine x_aload_n C dX6_kindHere_0 rfl 0 rfl ?_
  refine x_bipush C (v := 109) dX6_kindHere_1 (by decide) ?_
  refine x_bipush C (v := 105) dX6_kindHere_3 (by decide) ?_
  refine x_bipush C (v := 120) dX6_kindHere_5 (by decide) ?_
  refine x_bipush C (v := 101) dX6_kindHere_7 (by decide) ?_
  refine x_bipush C (v := 100) dX6_kindHere_9 (by decide) ?_
  refine x_iconst C (v := 0) dX6_kindHere_11 (by decide) ?_
  refine x_iconst C (v := 0) dX6_kindHere_12 (by decide) ?_
  obtain ⟨q1, hk1, h⟩ := Option.bind_eq_some_iff.mp h
  refine x_callS C (As := [.int (109 : Int32), .int (105 : Int32), .int (120 : Int32), .int (101 : Int32), .int (100 : Int32), .int (0 : Int32), .int (0 : Int32)]) (rest := [.ref (B + oMd)]) (lw_g_mk tw_1280 rfl) (okX6_spelled l cy D B ek (109 : Int32) (105 : Int32) (120 : Int32) (101 : Int32) (100 : Int32) (0 : Int32) (0 : Int32) σ μ ω _ hk1) rfl rfl (by rw [hR9]; decide) (lw_g_mk tw_1281 rfl) (lw_g_mk tw_7 rfl) (by decide) rfl (lw_g_mk tw_1279 rfl) rfl (Nat.le_of_ble_eq_true rfl) dX6_kindHere_13 (by rw [hR9]; decide) ?_
  obtain ⟨q2, hk2, h⟩ := Option.bind_eq_some_iff.mp h
  refine x_callV C (As := [.long q1]) (rest := []) (lw_g_mk tw_1288 rfl) (lw_g_mk tsel_29 rfl) (c_Md) (C1 := "HostelBedsModel") (T := TX6) (N := 27) (ci := 6) rfl (okX6_isWord l cy D B ek q1 σ μ ω _ hk2) rfl rfl (by rw [hR9]; decide) (lw_g_mk tw_1289 rfl) (lw_g_mk tw_7 rfl) (by decide) rfl (lw_g_mk tw_1286 rfl) rfl (Nat.le_of_ble_eq_true rfl) dX6_kindHere_16 (by rw [hR9]; decide) ?_
  refine x_if_eq C (tgt := 24) dX6_kindHere_19 (by decide) (fun hc3 => ?_) (fun hc3 => ?_)
  · rw [if_pos hc3] at h
    refine x_aload_n C dX6_kindHere_24 rfl 0 rfl ?_
    refine x_bipush C (v := 119) dX6_kindHere_25 (by decide) ?_
    refine x_bipush C (v := 111) dX6_kindHere_27 (by decide) ?_
    refine x_bipush C (v := 109) dX6_kindHere_29 (by decide) ?_
    refine x_bipush C (v := 101) dX6_kindHere_31 (by decide) ?_
    refine x_bipush C (v := 110) dX6_kindHere_33 (by decide) ?_
    refine x_iconst C (v := 0) dX6_kindHere_35 (by decide) ?_
    refine x_iconst C (v := 0) dX6_kindHere_36 (by decide) ?_
    obtain ⟨q3, hk4, h⟩ := Option.bind_eq_some_iff.mp h
    refine x_callS C (As := [.int (119 : Int32), .int (111 : Int32), .int (109 : Int32), .int (101 : Int32), .int (110 : Int32), .int (0 : Int32), .int (0 : Int32)]) (rest := [.ref (B + oMd)]) (lw_g_mk tw_1280 rfl) (okX6_spelled l cy D B ek (119 : Int32) (111 : Int32) (109 : Int32) (101 : Int32) (110 : Int32) (0 : Int32) (0 : Int32) σ μ ω _ hk4) rfl rfl (by rw [hR9]; decide) (lw_g_mk tw_1281 rfl) (lw_g_mk tw_7 rfl) (by decide) rfl (lw_g_mk tw_1279 rfl) rfl (Nat.le_of_ble_eq_true rfl) dX6_kindHere_37 (by rw [hR9]; decide) ?_
    obtain ⟨q4, hk5, h⟩ := Option.bind_eq_some_iff.mp h
    refine x_callV C (As := [.long q3]) (rest := []) (lw_g_mk tw_1288 rfl) (lw_g_mk tsel_29 rfl) (c_Md) (C1 := "HostelBedsModel") (T := TX6) (N := 27) (ci := 6) rfl (okX6_isWord l cy D B ek q3 σ μ ω _ hk5) rfl rfl (by rw [hR9]; decide) (lw_g_mk tw_1289 rfl) (lw_g_mk tw_7 rfl) (by decide) rfl (lw_g_mk tw_1286 rfl) rfl (Nat.le_of_ble_eq_true rfl) dX6_kindHere_40 (by rw [hR9]; decide) ?_
    refine x_if_eq C (tgt := 48) dX6_kindHere_43 (by decide) (fun hc6 => ?_) (fun hc6 => ?_)
    · rw [if_pos hc6] at h
      refine x_aload_n C dX6_kindHere_48 rfl 0 rfl ?_
      refine x_bipush C (v := 109) dX6_kindHere_49 (by decide) ?_
      refine x_bipush C (v := 101) dX6_kindHere_51 (by decide) ?_
      refine x_bipush C (v := 110) dX6_kindHere_53 (by decide) ?_
      refine x_iconst C (v := 0) dX6_kindHere_55 (by decide) ?_
      refine x_iconst C (v := 0) dX6_kindHere_56 (by decide) ?_
      refine x_iconst C (v := 0) dX6_kindHere_57 (by decide) ?_
      refine x_iconst C (v := 0) dX6_kindHere_58 (by decide) ?_
      obtain ⟨q5, hk7, h⟩ := Option.bind_eq_some_iff.mp h
      refine x_callS C (As := [.int (109 : Int32), .int (101 : Int32), .int (110 : Int32), .int (0 : Int32), .int (0 : Int32), .int (0 : Int32), .int (0 : Int32)]) (rest := [.ref (B + oMd)]) (lw_g_mk tw_1280 rfl) (okX6_spelled l cy D B ek (109 : Int32) (101 : Int32) (110 : Int32) (0 : Int32) (0 : Int32) (0 : Int32) (0 : Int32) σ μ ω _ hk7) rfl rfl (by rw [hR9]; decide) (lw_g_mk tw_1281 rfl) (lw_g_mk tw_7 rfl) (by decide) rfl (lw_g_mk tw_1279 rfl) rfl (Nat.le_of_ble_eq_true rfl) dX6_kindHere_59 (by rw [hR9]; decide) ?_
      obtain ⟨q6, hk8, h⟩ := Option.bind_eq_some_iff.mp h
      refine x_callV C (As := [.long q5]) (rest := []) (lw_g_mk tw_1288 rfl) (lw_g_mk tsel_29 rfl) (c_Md) (C1 := "HostelBedsModel") (T := TX6) (N := 27) (ci := 6) rfl (okX6_isWord l cy D B ek q5 σ μ ω _ hk8) rfl rfl (by rw [hR9]; decide) (lw_g_mk tw_1289 rfl) (lw_g_mk tw_7 rfl) (by decide) rfl (lw_g_mk tw_1286 rfl) rfl (Nat.le_of_ble_eq_true rfl) dX6_kindHere_62 (by rw [hR9]; decide) ?_
      refine x_if_eq C (tgt := 72) dX6_kindHere_65 (by decide) (fun hc9 => ?_) (fun hc9 => ?_)
      · rw [if_pos hc9] at h
        refine x_iconst C (v := -1) dX6_kindHere_72 (by decide) ?_
        cases h
        exact hret _ _ dX6_kindHere_73 rfl
      · rw [if_neg hc9] at h
        refine x_iconst C (v := 2) dX6_kindHere_68 (by decide) ?_
        refine x_goto C (tgt := 73) dX6_kindHere_69 (by decide) ?_
        cases h
        exact hret _ _ dX6_kindHere_73 rfl
    · rw [if_neg hc6] at h
      refine x_iconst C (v := 1) dX6_kindHere_46 (by decide) ?_
      cases h
      exact hret _ _ dX6_kindHere_47 rfl
  · rw [if_neg hc3] at h
    refine x_iconst C (v := 0) dX6_kindHere_22 (by decide) ?_
    cases h
    exact hret _ _ dX6_kindHere_23 rfl
def fX6_ends (μ : Mem) : Option (Mem) := (if ¬ (rI μ 73 0 0) = (3 : Int32) then ((fX6_must (0 : Int32) μ).bind fun q1 => (some q1)) else ((fX6_must (1 : Int32) μ).bind fun q2 => (some q2)))
set_option maxHeartbeats 4000000 in
set_option maxRecDepth 100000 in
theorem okX6_ends (l : Launch) (cy : Nat → ClassId) (D : va_G) (B : Nat) (ek : EK) (σ μ ω : Mem) (res : Mem) (h : fX6_ends μ = some res) : CT l cy D B ek yX6_ends cX6_ends 1 none ({ frames := 1, cells := 0, slots := 0, locals := 21 } : Room) [.ref (B + oMd)] σ μ ω none σ res ω := by
  refine met_X (own := "HostelBedsModel") (by decide) rfl (Nat.le_of_ble_eq_true rfl) ?_
  intro p e s m args below meth c C hrT hlk
  have hret : ∀ (pc9 : Nat) (lcs9 : List (Nat × Value)), decode cX6_ends pc9 = .ok (.return_, 1) → X p l e ({ frames := 1, cells := 0, slots := 0, locals := 21 } : Room) s m args below meth c 1 cy D B 0 0 (MQ below (QR cy D B none σ res ω) args s 0 0 (aB B)) pc9 lcs9 [] σ res ω := fun _ _ hd => x_vret C hrT hlk hd
  generalize (MQ below (QR cy D B none σ res ω) args s 0 0 (aB B)) = Q at hret ⊢
  obtain ⟨R, hR9⟩ : ∃ R : Room, R = ({ frames := 1, cells := 0, slots := 0, locals := 21 } : Room) := ⟨_, rfl⟩
  rw [← hR9] at hret ⊢
  unfold fX6_ends at h
  show X p l e R s m args below meth c 1 cy D B 0 0 Q 0 [(0, .ref (B + oMd))] [] σ μ ω
  refine x_aload_n C dX6_ends_0 rfl 0 rfl ?_
  refine x_aload_n C dX6_ends_1 rfl 0 rfl ?_
  refine x_get C (C1 := "HostelBedsModel") (T := TX6) (N := 27) (ci := 6) inXg6 _ (c_Md) rfl 17 (by decide) (lw_g_mk tw_1148 rfl) rfl dX6_ends_2 ?_
  refine x_iconst C (v := 3) dX6_ends_5 (by decide) ?_
  refine x_icmp_ne C (tgt := 13) dX6_ends_6 (by decide) (fun hc1 => ?_) (fun hc1 => ?_)
  · rw [if_pos hc1] at h
    refine x_iconst C (v := 0) dX6_ends_13 (by decide) ?_
    obtain ⟨q1, hk2, h⟩ := Option.bind_eq_some_iff.mp h
    refine x_callV C (As := [.int (0 : Int32)]) (rest := []) (lw_g_mk tw_1300 rfl) (lw_g_mk tsel_32 rfl) (c_Md) (C1 := "HostelBedsModel") (T := TX6) (N := 27) (ci := 6) rfl (okX6_must l cy D B ek (0 : Int32) σ μ ω _ hk2) rfl rfl (by rw [hR9]; decide) (lw_g_mk tw_1301 rfl) (lw_g_mk tw_7 rfl) (by decide) rfl (lw_g_mk tw_1298 rfl) rfl (Nat.le_of_ble_eq_true rfl) dX6_ends_14 (by rw [hR9]; decide) ?_
    cases h
    exact hret _ _ dX6_ends_17
  · rw [if_neg hc1] at h
    refine x_iconst C (v := 1) dX6_ends_9 (by decide) ?_
    refine x_goto C (tgt := 14) dX6_ends_10 (by decide) ?_
    obtain ⟨q2, hk3, h⟩ := Option.bind_eq_some_iff.mp h
    refine x_callV C (As := [.int (1 : Int32)]) (rest := []) (lw_g_mk tw_1300 rfl) (lw_g_mk tsel_32 rfl) (c_Md) (C1 := "HostelBedsModel") (T := TX6) (N := 27) (ci := 6) rfl (okX6_must l cy D B ek (1 : Int32) σ μ ω _ hk3) rfl rfl (by rw [hR9]; decide) (lw_g_mk tw_1301 rfl) (lw_g_mk tw_7 rfl) (by decide) rfl (lw_g_mk tw_1298 rfl) rfl (Nat.le_of_ble_eq_true rfl) dX6_ends_14 (by rw [hR9]; decide) ?_
    cases h
    exact hret _ _ dX6_ends_17
def jX6_placeOf_RR_30 (a3 : Int32) : Option ((Int32) ⊕ ((Unit) ⊕ (Int32))) := (some (.inl (a3 + (1 : Int32))))
def stX6_placeOf_RR_3 (p3 : Int32) (μ : Mem) (p1 : Int64) (a3 : Int32) : Option ((Int32) ⊕ ((Unit) ⊕ (Int32))) := (if p3 ≤ a3 then (some (.inr (.inl ()))) else (gd (inb a3 8) (if (lg_cmp (rJ μ 13 0 a3.toNatClampNeg) (0 : Int64)) = 0 then (jX6_placeOf_RR_30 a3) else (if ¬ (lg_cmp (rJ μ 13 0 a3.toNatClampNeg) p1) = 0 then (jX6_placeOf_RR_30 a3) else (some (.inr (.inr a3)))))))
def fX6_placeOf_RR (p1 : Int64) (p3 : Int32) (μ : Mem) : Option (Int32) := ((loop (stX6_placeOf_RR_3 p3 μ p1) 5000 ((0 : Int32))).bind fun b3 => Sum.elim (fun z3 => (some ((-1 : Int32)))) (fun w3 => (some w3)) b3)
set_option maxHeartbeats 4000000 in
set_option maxRecDepth 100000 in
theorem okX6_placeOf_RR (l : Launch) (cy : Nat → ClassId) (D : va_G) (B : Nat) (ek : EK) (p1 : Int64) (p3 : Int32) (σ μ ω : Mem) (res : Int32) (h : fX6_placeOf_RR p1 p3 μ = some res) : CT l cy D B ek yX6_placeOf cX6_placeOf 5 (some .int) ({ frames := 0, cells := 0, slots := 0, locals := 0 } : Room) [.long p1, .ref (B + oRR), .int p3] σ μ ω (some (.int res)) σ μ ω := by
  refine met_X (own := "HostelBedsModel") (by decide) rfl (Nat.le_of_ble_eq_true rfl) ?_
  intro p e s m args below meth c C hrT hlk
  have hret : ∀ (pc9 : Nat) (lcs9 : List (Nat × Value)), decode cX6_placeOf pc9 = .ok (.ireturn, 1) → narrow .int (.int res) = .int res → X p l e ({ frames := 0, cells := 0, slots := 0, locals := 0 } : Room) s m args below meth c 5 cy D B 0 0 (MQ below (QR cy D B (some (.int res)) σ μ ω) args s 0 0 (aB B)) pc9 lcs9 [.int res] σ μ ω := fun _ _ hd hn => x_zret C hrT hlk hn hd
  generalize (MQ below (QR cy D B (some (.int res)) σ μ ω) args s 0 0 (aB B)) = Q at hret ⊢
  obtain ⟨R, hR9⟩ : ∃ R : Room, R = ({ frames := 0, cells := 0, slots := 0, locals := 0 } : Room) := ⟨_, rfl⟩
  rw [← hR9] at hret ⊢
  unfold fX6_placeOf_RR at h
  show X p l e R s m args below meth c 5 cy D B 0 0 Q 0 [(0, .long p1), (2, .ref (B + oRR)), (3, .int p3)] [] σ μ ω
  refine x_iconst C (v := 0) dX6_placeOf_0 (by decide) ?_
  refine x_istore C [(4, .int (0 : Int32)), (0, .long p1), (2, .ref (B + oRR)), (3, .int p3)] dX6_placeOf_1 (by decide) rfl ?_
  obtain ⟨b3, hk8, h⟩ := Option.bind_eq_some_iff.mp h
  refine x_sub [1, 2, 3, 0] rfl ?_
  refine loop_run (step := stX6_placeOf_RR_3 p3 μ p1) (P := fun (a3 : Int32) => X p l e R s m args below meth c 5 cy D B 0 0 Q 3 [(0, .long p1), (2, .ref (B + oRR)), (3, .int p3), (4, .int a3)] [] σ μ ω) (K := fun (b3 : (Unit) ⊕ (Int32)) => Sum.elim (fun z3 => X p l e R s m args below meth c 5 cy D B 0 0 Q 36 [] [] σ μ ω) (fun w3 => ∀ (pc9 : Nat) (lcs9 : List (Nat × Value)), decode cX6_placeOf pc9 = .ok (.ireturn, 1) → narrow .int (.int w3) = .int w3 → X p l e R s m args below meth c 5 cy D B 0 0 Q pc9 lcs9 [.int w3] σ μ ω) b3) ?_ 5000 ((0 : Int32)) b3 hk8 ?_
  · intro a3 r h hA1 hB2
    unfold stX6_placeOf_RR_3 at h
    refine x_iload C dX6_placeOf_3 3 rfl ?_
    refine x_iload_n C dX6_placeOf_5 rfl 2 rfl ?_
    refine x_icmp_ge C (tgt := 36) dX6_placeOf_6 (by decide) (fun hc3 => ?_) (fun hc3 => ?_)
    · rw [if_pos hc3] at h
      cases h
      refine x_sub [] rfl ?_
      exact hB2 (.inl ()) rfl
    · rw [if_neg hc3] at h
      refine x_aload_n C dX6_placeOf_9 rfl 1 rfl ?_
      refine x_iload C dX6_placeOf_10 3 rfl ?_
      obtain ⟨hg4, h⟩ := gd_some h
      refine x_lald C _ (c_RR) hg4 dX6_placeOf_12 ?_
      refine x_lconst C (v := 0) dX6_placeOf_13 (by decide) ?_
      refine x_lcmp C dX6_placeOf_14 ?_
      have hJ5 : ∀ (r9 : (Int32) ⊕ ((Unit) ⊕ (Int32))), jX6_placeOf_RR_30 a3 = some r9 → (∀ a2, r9 = .inl a2 → (fun (a3 : Int32) => X p l e R s m args below meth c 5 cy D B 0 0 Q 3 [(0, .long p1), (2, .ref (B + oRR)), (3, .int p3), (4, .int a3)] [] σ μ ω) a2) → (∀ b2, r9 = .inr b2 → (fun (b3 : (Unit) ⊕ (Int32)) => Sum.elim (fun z3 => X p l e R s m args below meth c 5 cy D B 0 0 Q 36 [] [] σ μ ω) (fun w3 => ∀ (pc9 : Nat) (lcs9 : List (Nat × Value)), decode cX6_placeOf pc9 = .ok (.ireturn, 1) → narrow .int (.int w3) = .int w3 → X p l e R s m args below meth c 5 cy D B 0 0 Q pc9 lcs9 [.int w3] σ μ ω) b3) b2) → X p l e R s m args below meth c 5 cy D B 0 0 Q 30 [(0, .long p1), (2, .ref (B + oRR)), (3, .int p3), (4, .int a3)] [] σ μ ω := by
        intro r h hA1 hB2
        unfold jX6_placeOf_RR_30 at h
        refine x_iinc C (k := 3) [(4, .int (a3 + (1 : Int32))), (0, .long p1), (2, .ref (B + oRR)), (3, .int p3)] dX6_placeOf_30 rfl rfl (by decide) rfl ?_
        refine x_goto C (tgt := 3) dX6_placeOf_33 (by decide) ?_
        cases h
        refine x_sub [1, 2, 3, 0] rfl ?_
        exact hA1 (a3 + (1 : Int32)) rfl
      refine x_if_eq C (tgt := 30) dX6_placeOf_15 (by decide) (fun hc6 => ?_) (fun hc6 => ?_)
      · rw [if_pos hc6] at h
        exact hJ5 _ h hA1 hB2
      · rw [if_neg hc6] at h
        refine x_aload_n C dX6_placeOf_18 rfl 1 rfl ?_
        refine x_iload C dX6_placeOf_19 3 rfl ?_
        refine x_lald C _ (c_RR) hg4 dX6_placeOf_21 ?_
        refine x_lload_n C dX6_placeOf_22 rfl 0 rfl ?_
        refine x_lcmp C dX6_placeOf_23 ?_
        refine x_if_ne C (tgt := 30) dX6_placeOf_24 (by decide) (fun hc7 => ?_) (fun hc7 => ?_)
        · rw [if_pos hc7] at h
          exact hJ5 _ h hA1 hB2
        · rw [if_neg hc7] at h
          refine x_iload C dX6_placeOf_27 3 rfl ?_
          cases h
          exact hB2 (.inr a3) rfl _ _ dX6_placeOf_29 rfl
  · rcases b3 with z3 | w3
    · rw [Sum.elim_inl] at h
      show X p l e R s m args below meth c 5 cy D B 0 0 Q 36 [] [] σ μ ω
      refine x_iconst C (v := -1) dX6_placeOf_36 (by decide) ?_
      cases h
      exact hret _ _ dX6_placeOf_37 rfl
    · rw [Sum.elim_inr] at h
      show ∀ (pc9 : Nat) (lcs9 : List (Nat × Value)), decode cX6_placeOf pc9 = .ok (.ireturn, 1) → narrow .int (.int w3) = .int w3 → X p l e R s m args below meth c 5 cy D B 0 0 Q pc9 lcs9 [.int w3] σ μ ω
      cases h
      exact hret
def jX6_readRoom_85 (q7 : Mem) (q1 : Int32) (q8 : Int32) (q6 : Mem) (t9 : Int32) : Option (Mem) := ((fX6_must t9 q7).bind fun q10 => ((fX6_goesOn q10).bind fun q11 => ((fX6_readValue (1 : Int32) (10 : Int32) q11).bind fun q12 => ((fX6_readValue (0 : Int32) (99 : Int32) q12.2).bind fun q13 => ((fX6_readValue (1 : Int32) (200 : Int32) q13.2).bind fun q14 => ((fX6_ends q14.2).bind fun q15 => ((fX6_isWell q15).bind fun q16 => (if ¬ q16 = 0 then (gd (inb q1 8) ((fX6_set (((5 : Int32) + ((4 : Int32) * q1)) + (0 : Int32)) q8 (wJ q15 13 0 q1.toNatClampNeg (rJ q6 10 0 0))).bind fun q17 => ((fX6_set (((5 : Int32) + ((4 : Int32) * q1)) + (1 : Int32)) q12.1 q17).bind fun q18 => ((fX6_set (((5 : Int32) + ((4 : Int32) * q1)) + (2 : Int32)) q13.1 q18).bind fun q19 => ((fX6_set (((5 : Int32) + ((4 : Int32) * q1)) + (3 : Int32)) q14.1 q19).bind fun q20 => ((fX6_set (4 : Int32) (q1 + (1 : Int32)) q20).bind fun q21 => (some q21))))))) else (some q15)))))))))
def jX6_readRoom_55 (q4 : Mem) (q1 : Int32) (t5 : Int32) : Option (Mem) := ((fX6_must t5 q4).bind fun q6 => ((fX6_goesOn q6).bind fun q7 => ((fX6_kindHere q7).bind fun q8 => (if q8 = (-1 : Int32) then (jX6_readRoom_85 q7 q1 q8 q6 (0 : Int32)) else (jX6_readRoom_85 q7 q1 q8 q6 (1 : Int32))))))
def jX6_readRoom_54 (q4 : Mem) (q1 : Int32) : Option (Mem) := (jX6_readRoom_55 q4 q1 (0 : Int32))
def jX6_readRoom_18 (μ : Mem) (q1 : Int32) (t2 : Int32) : Option (Mem) := ((fX6_must t2 μ).bind fun q3 => ((fX6_goesOn q3).bind fun q4 => (if ¬ (rI q4 73 0 0) = (1 : Int32) then (jX6_readRoom_54 q4 q1) else ((fX6_placeOf_RR (rJ q4 10 0 0) q1 q4).bind fun q22 => (if ¬ q22 = (-1 : Int32) then (jX6_readRoom_54 q4 q1) else (jX6_readRoom_55 q4 q1 (1 : Int32)))))))
def fX6_readRoom (μ : Mem) : Option (Mem) := ((fX6_get (4 : Int32) μ).bind fun q1 => (if (8 : Int32) ≤ q1 then (jX6_readRoom_18 μ q1 (0 : Int32)) else (jX6_readRoom_18 μ q1 (1 : Int32))))
set_option maxHeartbeats 4000000 in
set_option maxRecDepth 100000 in
theorem okX6_readRoom (l : Launch) (cy : Nat → ClassId) (D : va_G) (B : Nat) (ek : EK) (σ μ ω : Mem) (res : Mem) (h : fX6_readRoom μ = some res) : CT l cy D B ek yX6_readRoom cX6_readRoom 8 none ({ frames := 5, cells := 0, slots := 0, locals := 107 } : Room) [.ref (B + oMd)] σ μ ω none σ res ω := by
  refine met_X (own := "HostelBedsModel") (by decide) rfl (Nat.le_of_ble_eq_true rfl) ?_
  intro p e s m args below meth c C hrT hlk
  have hret : ∀ (pc9 : Nat) (lcs9 : List (Nat × Value)), decode cX6_readRoom pc9 = .ok (.return_, 1) → X p l e ({ frames := 5, cells := 0, slots := 0, locals := 107 } : Room) s m args below meth c 8 cy D B 0 0 (MQ below (QR cy D B none σ res ω) args s 0 0 (aB B)) pc9 lcs9 [] σ res ω := fun _ _ hd => x_vret C hrT hlk hd
  generalize (MQ below (QR cy D B none σ res ω) args s 0 0 (aB B)) = Q at hret ⊢
  obtain ⟨R, hR9⟩ : ∃ R : Room, R = ({ frames := 5, cells := 0, slots := 0, locals := 107 } : Room) := ⟨_, rfl⟩
  rw [← hR9] at hret ⊢
  unfold fX6_readRoom at h
  show X p l e R s m args below meth c 8 cy D B 0 0 Q 0 [(0, .ref (B + oMd))] [] σ μ ω
  refine x_aload_n C dX6_readRoom_0 rfl 0 rfl ?_
  refine x_iconst C (v := 4) dX6_readRoom_1 (by decide) ?_
  obtain ⟨q1, hk1, h⟩ := Option.bind_eq_some_iff.mp h
  refine x_callV C (As := [.int (4 : Int32)]) (rest := []) (lw_g_mk tw_1296 rfl) (lw_g_mk tsel_31 rfl) (c_Md) (C1 := "HostelBedsModel") (T := TX6) (N := 27) (ci := 6) rfl (okX6_get l cy D B ek (4 : Int32) σ μ ω _ hk1) rfl rfl (by rw [hR9]; decide) (lw_g_mk tw_1297 rfl) (lw_g_mk tw_7 rfl) (by decide) rfl (lw_g_mk tw_1294 rfl) rfl (Nat.le_of_ble_eq_true rfl) dX6_readRoom_2 (by rw [hR9]; decide) ?_
  refine x_istore_n C [(1, .int q1), (0, .ref (B + oMd))] dX6_readRoom_5 rfl (by decide) rfl ?_
  refine x_aload_n C dX6_readRoom_6 rfl 1 rfl ?_
  refine x_iload_n C dX6_readRoom_7 rfl 0 rfl ?_
  refine x_bipush C (v := 8) dX6_readRoom_8 (by decide) ?_
  have hJ28 : ∀ (t2 : Int32) (r9 : Mem), jX6_readRoom_18 μ q1 t2 = some r9 → (∀ (pc9 : Nat) (lcs9 : List (Nat × Value)), decode cX6_readRoom pc9 = .ok (.return_, 1) → X p l e R s m args below meth c 8 cy D B 0 0 Q pc9 lcs9 [] σ r9 ω) → X p l e R s m args below meth c 8 cy D B 0 0 Q 18 [(0, .ref (B + oMd)), (1, .int q1)] [.int t2, .ref (B + oMd)] σ μ ω := by
    intro t2 res9 h hret
    unfold jX6_readRoom_18 at h
    obtain ⟨q3, hk2, h⟩ := Option.bind_eq_some_iff.mp h
    refine x_callV C (As := [.int t2]) (rest := []) (lw_g_mk tw_1300 rfl) (lw_g_mk tsel_32 rfl) (c_Md) (C1 := "HostelBedsModel") (T := TX6) (N := 27) (ci := 6) rfl (okX6_must l cy D B ek t2 σ μ ω _ hk2) rfl rfl (by rw [hR9]; decide) (lw_g_mk tw_1301 rfl) (lw_g_mk tw_7 rfl) (by decide) rfl (lw_g_mk tw_1298 rfl) rfl (Nat.le_of_ble_eq_true rfl) dX6_readRoom_18 (by rw [hR9]; decide) ?_
    refine x_aload_n C dX6_readRoom_21 rfl 0 rfl ?_
    obtain ⟨q4, hk3, h⟩ := Option.bind_eq_some_iff.mp h
    refine x_callV C (As := []) (rest := []) (lw_g_mk tw_1304 rfl) (lw_g_mk tsel_33 rfl) (c_Md) (C1 := "HostelBedsModel") (T := TX6) (N := 27) (ci := 6) rfl (okX6_goesOn l cy D B ek σ q3 ω _ hk3) rfl rfl (by rw [hR9]; decide) (lw_g_mk tw_1305 rfl) (lw_g_mk tw_7 rfl) (by decide) rfl (lw_g_mk tw_1302 rfl) rfl (Nat.le_of_ble_eq_true rfl) dX6_readRoom_22 (by rw [hR9]; decide) ?_
    refine x_aload_n C dX6_readRoom_25 rfl 0 rfl ?_
    refine x_aload_n C dX6_readRoom_26 rfl 0 rfl ?_
    refine x_get C (C1 := "HostelBedsModel") (T := TX6) (N := 27) (ci := 6) inXg6 _ (c_Md) rfl 17 (by decide) (lw_g_mk tw_1148 rfl) rfl dX6_readRoom_27 ?_
    refine x_iconst C (v := 1) dX6_readRoom_30 (by decide) ?_
    have hJ23 : ∀ (t5 : Int32) (r9 : Mem), jX6_readRoom_55 q4 q1 t5 = some r9 → (∀ (pc9 : Nat) (lcs9 : List (Nat × Value)), decode cX6_readRoom pc9 = .ok (.return_, 1) → X p l e R s m args below meth c 8 cy D B 0 0 Q pc9 lcs9 [] σ r9 ω) → X p l e R s m args below meth c 8 cy D B 0 0 Q 55 [(0, .ref (B + oMd)), (1, .int q1)] [.int t5, .ref (B + oMd)] σ q4 ω := by
      intro t5 res9 h hret
      unfold jX6_readRoom_55 at h
      obtain ⟨q6, hk4, h⟩ := Option.bind_eq_some_iff.mp h
      refine x_callV C (As := [.int t5]) (rest := []) (lw_g_mk tw_1300 rfl) (lw_g_mk tsel_32 rfl) (c_Md) (C1 := "HostelBedsModel") (T := TX6) (N := 27) (ci := 6) rfl (okX6_must l cy D B ek t5 σ q4 ω _ hk4) rfl rfl (by rw [hR9]; decide) (lw_g_mk tw_1301 rfl) (lw_g_mk tw_7 rfl) (by decide) rfl (lw_g_mk tw_1298 rfl) rfl (Nat.le_of_ble_eq_true rfl) dX6_readRoom_55 (by rw [hR9]; decide) ?_
      refine x_aload_n C dX6_readRoom_58 rfl 0 rfl ?_
      refine x_get C (C1 := "HostelBedsModel") (T := TX6) (N := 27) (ci := 6) inXg6 _ (c_Md) rfl 19 (by decide) (lw_g_mk tw_1150 rfl) rfl dX6_readRoom_59 ?_
      refine x_lstore_n C [(2, .long (rJ q6 10 0 0)), (0, .ref (B + oMd)), (1, .int q1)] dX6_readRoom_62 rfl (by decide) rfl ?_
      refine x_aload_n C dX6_readRoom_63 rfl 1 rfl ?_
      obtain ⟨q7, hk5, h⟩ := Option.bind_eq_some_iff.mp h
      refine x_callV C (As := []) (rest := []) (lw_g_mk tw_1304 rfl) (lw_g_mk tsel_33 rfl) (c_Md) (C1 := "HostelBedsModel") (T := TX6) (N := 27) (ci := 6) rfl (okX6_goesOn l cy D B ek σ q6 ω _ hk5) rfl rfl (by rw [hR9]; decide) (lw_g_mk tw_1305 rfl) (lw_g_mk tw_7 rfl) (by decide) rfl (lw_g_mk tw_1302 rfl) rfl (Nat.le_of_ble_eq_true rfl) dX6_readRoom_64 (by rw [hR9]; decide) ?_
      refine x_aload_n C dX6_readRoom_67 rfl 1 rfl ?_
      obtain ⟨q8, hk6, h⟩ := Option.bind_eq_some_iff.mp h
      refine x_callV C (As := []) (rest := []) (lw_g_mk tw_1311 rfl) (lw_g_mk tsel_34 rfl) (c_Md) (C1 := "HostelBedsModel") (T := TX6) (N := 27) (ci := 6) rfl (okX6_kindHere l cy D B ek σ q7 ω _ hk6) rfl rfl (by rw [hR9]; decide) (lw_g_mk tw_1312 rfl) (lw_g_mk tw_7 rfl) (by decide) rfl (lw_g_mk tw_1309 rfl) rfl (Nat.le_of_ble_eq_true rfl) dX6_readRoom_68 (by rw [hR9]; decide) ?_
      refine x_istore C [(4, .int q8), (2, .long (rJ q6 10 0 0)), (0, .ref (B + oMd)), (1, .int q1)] dX6_readRoom_71 (by decide) rfl ?_
      refine x_aload_n C dX6_readRoom_73 rfl 2 rfl ?_
      refine x_iload C dX6_readRoom_74 0 rfl ?_
      refine x_iconst C (v := -1) dX6_readRoom_76 (by decide) ?_
      have hJ21 : ∀ (t9 : Int32) (r9 : Mem), jX6_readRoom_85 q7 q1 q8 q6 t9 = some r9 → (∀ (pc9 : Nat) (lcs9 : List (Nat × Value)), decode cX6_readRoom pc9 = .ok (.return_, 1) → X p l e R s m args below meth c 8 cy D B 0 0 Q pc9 lcs9 [] σ r9 ω) → X p l e R s m args below meth c 8 cy D B 0 0 Q 85 [(0, .ref (B + oMd)), (1, .int q1), (2, .long (rJ q6 10 0 0)), (4, .int q8)] [.int t9, .ref (B + oMd)] σ q7 ω := by
        intro t9 res9 h hret
        unfold jX6_readRoom_85 at h
        obtain ⟨q10, hk7, h⟩ := Option.bind_eq_some_iff.mp h
        refine x_callV C (As := [.int t9]) (rest := []) (lw_g_mk tw_1300 rfl) (lw_g_mk tsel_32 rfl) (c_Md) (C1 := "HostelBedsModel") (T := TX6) (N := 27) (ci := 6) rfl (okX6_must l cy D B ek t9 σ q7 ω _ hk7) rfl rfl (by rw [hR9]; decide) (lw_g_mk tw_1301 rfl) (lw_g_mk tw_7 rfl) (by decide) rfl (lw_g_mk tw_1298 rfl) rfl (Nat.le_of_ble_eq_true rfl) dX6_readRoom_85 (by rw [hR9]; decide) ?_
        refine x_aload_n C dX6_readRoom_88 rfl 0 rfl ?_
        obtain ⟨q11, hk8, h⟩ := Option.bind_eq_some_iff.mp h
        refine x_callV C (As := []) (rest := []) (lw_g_mk tw_1304 rfl) (lw_g_mk tsel_33 rfl) (c_Md) (C1 := "HostelBedsModel") (T := TX6) (N := 27) (ci := 6) rfl (okX6_goesOn l cy D B ek σ q10 ω _ hk8) rfl rfl (by rw [hR9]; decide) (lw_g_mk tw_1305 rfl) (lw_g_mk tw_7 rfl) (by decide) rfl (lw_g_mk tw_1302 rfl) rfl (Nat.le_of_ble_eq_true rfl) dX6_readRoom_89 (by rw [hR9]; decide) ?_
        refine x_aload_n C dX6_readRoom_92 rfl 0 rfl ?_
        refine x_iconst C (v := 1) dX6_readRoom_93 (by decide) ?_
        refine x_bipush C (v := 10) dX6_readRoom_94 (by decide) ?_
        obtain ⟨q12, hk9, h⟩ := Option.bind_eq_some_iff.mp h
        refine x_callV C (As := [.int (1 : Int32), .int (10 : Int32)]) (rest := []) (lw_g_mk tw_1315 rfl) (lw_g_mk tsel_35 rfl) (c_Md) (C1 := "HostelBedsModel") (T := TX6) (N := 27) (ci := 6) rfl (okX6_readValue l cy D B ek (1 : Int32) (10 : Int32) σ q11 ω _ hk9) rfl rfl (by rw [hR9]; decide) (lw_g_mk tw_1316 rfl) (lw_g_mk tw_7 rfl) (by decide) rfl (lw_g_mk tw_1313 rfl) rfl (Nat.le_of_ble_eq_true rfl) dX6_readRoom_96 (by rw [hR9]; decide) ?_
        refine x_istore C [(5, .int q12.1), (0, .ref (B + oMd)), (1, .int q1), (2, .long (rJ q6 10 0 0)), (4, .int q8)] dX6_readRoom_99 (by decide) rfl ?_
        refine x_aload_n C dX6_readRoom_101 rfl 1 rfl ?_
        refine x_iconst C (v := 0) dX6_readRoom_102 (by decide) ?_
        refine x_bipush C (v := 99) dX6_readRoom_103 (by decide) ?_
        obtain ⟨q13, hk10, h⟩ := Option.bind_eq_some_iff.mp h
        refine x_callV C (As := [.int (0 : Int32), .int (99 : Int32)]) (rest := []) (lw_g_mk tw_1315 rfl) (lw_g_mk tsel_35 rfl) (c_Md) (C1 := "HostelBedsModel") (T := TX6) (N := 27) (ci := 6) rfl (okX6_readValue l cy D B ek (0 : Int32) (99 : Int32) σ q12.2 ω _ hk10) rfl rfl (by rw [hR9]; decide) (lw_g_mk tw_1316 rfl) (lw_g_mk tw_7 rfl) (by decide) rfl (lw_g_mk tw_1313 rfl) rfl (Nat.le_of_ble_eq_true rfl) dX6_readRoom_105 (by rw [hR9]; decide) ?_
        refine x_istore C [(6, .int q13.1), (5, .int q12.1), (0, .ref (B + oMd)), (1, .int q1), (2, .long (rJ q6 10 0 0)), (4, .int q8)] dX6_readRoom_108 (by decide) rfl ?_
        refine x_aload_n C dX6_readRoom_110 rfl 2 rfl ?_
        refine x_iconst C (v := 1) dX6_readRoom_111 (by decide) ?_
        refine x_sipush C (v := 200) dX6_readRoom_112 (by decide) ?_
        obtain ⟨q14, hk11, h⟩ := Option.bind_eq_some_iff.mp h
        refine x_callV C (As := [.int (1 : Int32), .int (200 : Int32)]) (rest := []) (lw_g_mk tw_1315 rfl) (lw_g_mk tsel_35 rfl) (c_Md) (C1 := "HostelBedsModel") (T := TX6) (N := 27) (ci := 6) rfl (okX6_readValue l cy D B ek (1 : Int32) (200 : Int32) σ q13.2 ω _ hk11) rfl rfl (by rw [hR9]; decide) (lw_g_mk tw_1316 rfl) (lw_g_mk tw_7 rfl) (by decide) rfl (lw_g_mk tw_1313 rfl) rfl (Nat.le_of_ble_eq_true rfl) dX6_readRoom_115 (by rw [hR9]; decide) ?_
        refine x_istore C [(7, .int q14.1), (6, .int q13.1), (5, .int q12.1), (0, .ref (B + oMd)), (1, .int q1), (2, .long (rJ q6 10 0 0)), (4, .int q8)] dX6_readRoom_118 (by decide) rfl ?_
        refine x_aload_n C dX6_readRoom_120 rfl 3 rfl ?_
        obtain ⟨q15, hk12, h⟩ := Option.bind_eq_some_iff.mp h
        refine x_callV C (As := []) (rest := []) (lw_g_mk tw_1319 rfl) (lw_g_mk tsel_36 rfl) (c_Md) (C1 := "HostelBedsModel") (T := TX6) (N := 27) (ci := 6) rfl (okX6_ends l cy D B ek σ q14.2 ω _ hk12) rfl rfl (by rw [hR9]; decide) (lw_g_mk tw_1320 rfl) (lw_g_mk tw_7 rfl) (by decide) rfl (lw_g_mk tw_1317 rfl) rfl (Nat.le_of_ble_eq_true rfl) dX6_readRoom_121 (by rw [hR9]; decide) ?_
        refine x_aload_n C dX6_readRoom_124 rfl 3 rfl ?_
        obtain ⟨q16, hk13, h⟩ := Option.bind_eq_some_iff.mp h
        refine x_callV C (As := []) (rest := []) (lw_g_mk tw_1273 rfl) (lw_g_mk tsel_27 rfl) (c_Md) (C1 := "HostelBedsModel") (T := TX6) (N := 27) (ci := 6) rfl (okX6_isWell l cy D B ek σ q15 ω _ hk13) rfl rfl (by rw [hR9]; decide) (lw_g_mk tw_1274 rfl) (lw_g_mk tw_7 rfl) (by decide) rfl (lw_g_mk tw_1271 rfl) rfl (Nat.le_of_ble_eq_true rfl) dX6_readRoom_125 (by rw [hR9]; decide) ?_
        refine x_if_ne C (tgt := 132) dX6_readRoom_128 (by decide) (fun hc14 => ?_) (fun hc14 => ?_)
        · rw [if_pos hc14] at h
          refine x_aload_n C dX6_readRoom_132 rfl 3 rfl ?_
          refine x_get C (C1 := "HostelBedsModel") (T := TX6) (N := 27) (ci := 6) inXg6 _ (c_Md) rfl 7 (by decide) (lw_g_mk tw_1138 rfl) rfl dX6_readRoom_133 ?_
          refine x_iload_n C dX6_readRoom_136 rfl 4 rfl ?_
          refine x_lload_n C dX6_readRoom_137 rfl 5 rfl ?_
          obtain ⟨hg15, h⟩ := gd_some h
          refine x_last C _ (c_RR) hg15 dX6_readRoom_138 (s_RR) ?_
          refine x_aload_n C dX6_readRoom_139 rfl 3 rfl ?_
          refine x_iconst C (v := 5) dX6_readRoom_140 (by decide) ?_
          refine x_iconst C (v := 4) dX6_readRoom_141 (by decide) ?_
          refine x_iload_n C dX6_readRoom_142 rfl 4 rfl ?_
          refine x_imul C dX6_readRoom_143 ?_
          refine x_iadd C dX6_readRoom_144 ?_
          refine x_iconst C (v := 0) dX6_readRoom_145 (by decide) ?_
          refine x_iadd C dX6_readRoom_146 ?_
          refine x_iload C dX6_readRoom_147 6 rfl ?_
          obtain ⟨q17, hk16, h⟩ := Option.bind_eq_some_iff.mp h
          refine x_callV C (As := [.int (((5 : Int32) + ((4 : Int32) * q1)) + (0 : Int32)), .int q8]) (rest := []) (lw_g_mk tw_1323 rfl) (lw_g_mk tsel_37 rfl) (c_Md) (C1 := "HostelBedsModel") (T := TX6) (N := 27) (ci := 6) rfl (okX6_set l cy D B ek (((5 : Int32) + ((4 : Int32) * q1)) + (0 : Int32)) q8 σ (wJ q15 13 0 q1.toNatClampNeg (rJ q6 10 0 0)) ω _ hk16) rfl rfl (by rw [hR9]; decide) (lw_g_mk tw_1324 rfl) (lw_g_mk tw_7 rfl) (by decide) rfl (lw_g_mk tw_1321 rfl) rfl (Nat.le_of_ble_eq_true rfl) dX6_readRoom_149 (by rw [hR9]; decide) ?_
          refine x_aload_n C dX6_readRoom_152 rfl 3 rfl ?_
          refine x_iconst C (v := 5) dX6_readRoom_153 (by decide) ?_
          refine x_iconst C (v := 4) dX6_readRoom_154 (by decide) ?_
          refine x_iload_n C dX6_readRoom_155 rfl 4 rfl ?_
          refine x_imul C dX6_readRoom_156 ?_
          refine x_iadd C dX6_readRoom_157 ?_
          refine x_iconst C (v := 1) dX6_readRoom_158 (by decide) ?_
          refine x_iadd C dX6_readRoom_159 ?_
          refine x_iload C dX6_readRoom_160 2 rfl ?_
          obtain ⟨q18, hk17, h⟩ := Option.bind_eq_some_iff.mp h
          refine x_callV C (As := [.int (((5 : Int32) + ((4 : Int32) * q1)) + (1 : Int32)), .int q12.1]) (rest := []) (lw_g_mk tw_1323 rfl) (lw_g_mk tsel_37 rfl) (c_Md) (C1 := "HostelBedsModel") (T := TX6) (N := 27) (ci := 6) rfl (okX6_set l cy D B ek (((5 : Int32) + ((4 : Int32) * q1)) + (1 : Int32)) q12.1 σ q17 ω _ hk17) rfl rfl (by rw [hR9]; decide) (lw_g_mk tw_1324 rfl) (lw_g_mk tw_7 rfl) (by decide) rfl (lw_g_mk tw_1321 rfl) rfl (Nat.le_of_ble_eq_true rfl) dX6_readRoom_162 (by rw [hR9]; decide) ?_
          refine x_aload_n C dX6_readRoom_165 rfl 3 rfl ?_
          refine x_iconst C (v := 5) dX6_readRoom_166 (by decide) ?_
          refine x_iconst C (v := 4) dX6_readRoom_167 (by decide) ?_
          refine x_iload_n C dX6_readRoom_168 rfl 4 rfl ?_
          refine x_imul C dX6_readRoom_169 ?_
          refine x_iadd C dX6_readRoom_170 ?_
          refine x_iconst C (v := 2) dX6_readRoom_171 (by decide) ?_
          refine x_iadd C dX6_readRoom_172 ?_
          refine x_iload C dX6_readRoom_173 1 rfl ?_
          obtain ⟨q19, hk18, h⟩ := Option.bind_eq_some_iff.mp h
          refine x_callV C (As := [.int (((5 : Int32) + ((4 : Int32) * q1)) + (2 : Int32)), .int q13.1]) (rest := []) (lw_g_mk tw_1323 rfl) (lw_g_mk tsel_37 rfl) (c_Md) (C1 := "HostelBedsModel") (T := TX6) (N := 27) (ci := 6) rfl (okX6_set l cy D B ek (((5 : Int32) + ((4 : Int32) * q1)) + (2 : Int32)) q13.1 σ q18 ω _ hk18) rfl rfl (by rw [hR9]; decide) (lw_g_mk tw_1324 rfl) (lw_g_mk tw_7 rfl) (by decide) rfl (lw_g_mk tw_1321 rfl) rfl (Nat.le_of_ble_eq_true rfl) dX6_readRoom_175 (by rw [hR9]; decide) ?_
          refine x_aload_n C dX6_readRoom_178 rfl 3 rfl ?_
          refine x_iconst C (v := 5) dX6_readRoom_179 (by decide) ?_
          refine x_iconst C (v := 4) dX6_readRoom_180 (by decide) ?_
          refine x_iload_n C dX6_readRoom_181 rfl 4 rfl ?_
          refine x_imul C dX6_readRoom_182 ?_
          refine x_iadd C dX6_readRoom_183 ?_
          refine x_iconst C (v := 3) dX6_readRoom_184 (by decide) ?_
          refine x_iadd C dX6_readRoom_185 ?_
          refine x_iload C dX6_readRoom_186 0 rfl ?_
          obtain ⟨q20, hk19, h⟩ := Option.bind_eq_some_iff.mp h
          refine x_callV C (As := [.int (((5 : Int32) + ((4 : Int32) * q1)) + (3 : Int32)), .int q14.1]) (rest := []) (lw_g_mk tw_1323 rfl) (lw_g_mk tsel_37 rfl) (c_Md) (C1 := "HostelBedsModel") (T := TX6) (N := 27) (ci := 6) rfl (okX6_set l cy D B ek (((5 : Int32) + ((4 : Int32) * q1)) + (3 : Int32)) q14.1 σ q19 ω _ hk19) rfl rfl (by rw [hR9]; decide) (lw_g_mk tw_1324 rfl) (lw_g_mk tw_7 rfl) (by decide) rfl (lw_g_mk tw_1321 rfl) rfl (Nat.le_of_ble_eq_true rfl) dX6_readRoom_188 (by rw [hR9]; decide) ?_
          refine x_aload_n C dX6_readRoom_191 rfl 3 rfl ?_
          refine x_iconst C (v := 4) dX6_readRoom_192 (by decide) ?_
          refine x_iload_n C dX6_readRoom_193 rfl 4 rfl ?_
          refine x_iconst C (v := 1) dX6_readRoom_194 (by decide) ?_
          refine x_iadd C dX6_readRoom_195 ?_
          obtain ⟨q21, hk20, h⟩ := Option.bind_eq_some_iff.mp h
          refine x_callV C (As := [.int (4 : Int32), .int (q1 + (1 : Int32))]) (rest := []) (lw_g_mk tw_1323 rfl) (lw_g_mk tsel_37 rfl) (c_Md) (C1 := "HostelBedsModel") (T := TX6) (N := 27) (ci := 6) rfl (okX6_set l cy D B ek (4 : Int32) (q1 + (1 : Int32)) σ q20 ω _ hk20) rfl rfl (by rw [hR9]; decide) (lw_g_mk tw_1324 rfl) (lw_g_mk tw_7 rfl) (by decide) rfl (lw_g_mk tw_1321 rfl) rfl (Nat.le_of_ble_eq_true rfl) dX6_readRoom_196 (by rw [hR9]; decide) ?_
          cases h
          exact hret _ _ dX6_readRoom_199
        · rw [if_neg hc14] at h
          cases h
          exact hret _ _ dX6_readRoom_131
      refine x_icmp_eq C (tgt := 84) dX6_readRoom_77 (by decide) (fun hc22 => ?_) (fun hc22 => ?_)
      · rw [if_pos hc22] at h
        refine x_iconst C (v := 0) dX6_readRoom_84 (by decide) ?_
        refine x_sub [2, 3, 1, 0] rfl ?_
        exact hJ21 (0 : Int32) _ h hret
      · rw [if_neg hc22] at h
        refine x_iconst C (v := 1) dX6_readRoom_80 (by decide) ?_
        refine x_goto C (tgt := 85) dX6_readRoom_81 (by decide) ?_
        refine x_sub [2, 3, 1, 0] rfl ?_
        exact hJ21 (1 : Int32) _ h hret
    have hJ24 : ∀ (r9 : Mem), jX6_readRoom_54 q4 q1 = some r9 → (∀ (pc9 : Nat) (lcs9 : List (Nat × Value)), decode cX6_readRoom pc9 = .ok (.return_, 1) → X p l e R s m args below meth c 8 cy D B 0 0 Q pc9 lcs9 [] σ r9 ω) → X p l e R s m args below meth c 8 cy D B 0 0 Q 54 [(0, .ref (B + oMd)), (1, .int q1)] [.ref (B + oMd)] σ q4 ω := by
      intro res9 h hret
      unfold jX6_readRoom_54 at h
      refine x_iconst C (v := 0) dX6_readRoom_54 (by decide) ?_
      exact hJ23 (0 : Int32) _ h hret
    refine x_icmp_ne C (tgt := 54) dX6_readRoom_31 (by decide) (fun hc25 => ?_) (fun hc25 => ?_)
    · rw [if_pos hc25] at h
      exact hJ24 _ h hret
    · rw [if_neg hc25] at h
      refine x_aload_n C dX6_readRoom_34 rfl 0 rfl ?_
      refine x_get C (C1 := "HostelBedsModel") (T := TX6) (N := 27) (ci := 6) inXg6 _ (c_Md) rfl 19 (by decide) (lw_g_mk tw_1150 rfl) rfl dX6_readRoom_35 ?_
      refine x_aload_n C dX6_readRoom_38 rfl 0 rfl ?_
      refine x_get C (C1 := "HostelBedsModel") (T := TX6) (N := 27) (ci := 6) inXg6 _ (c_Md) rfl 7 (by decide) (lw_g_mk tw_1138 rfl) rfl dX6_readRoom_39 ?_
      refine x_iload_n C dX6_readRoom_42 rfl 1 rfl ?_
      obtain ⟨q22, hk26, h⟩ := Option.bind_eq_some_iff.mp h
      refine x_callS C (As := [.long (rJ q4 10 0 0), .ref (B + oRR), .int q1]) (rest := [.ref (B + oMd)]) (lw_g_mk tw_1307 rfl) (okX6_placeOf_RR l cy D B ek (rJ q4 10 0 0) q1 σ q4 ω _ hk26) rfl rfl (by rw [hR9]; decide) (lw_g_mk tw_1308 rfl) (lw_g_mk tw_7 rfl) (by decide) rfl (lw_g_mk tw_1306 rfl) rfl (Nat.le_of_ble_eq_true rfl) dX6_readRoom_43 (by rw [hR9]; decide) ?_
      refine x_iconst C (v := -1) dX6_readRoom_46 (by decide) ?_
      refine x_icmp_ne C (tgt := 54) dX6_readRoom_47 (by decide) (fun hc27 => ?_) (fun hc27 => ?_)
      · rw [if_pos hc27] at h
        exact hJ24 _ h hret
      · rw [if_neg hc27] at h
        refine x_iconst C (v := 1) dX6_readRoom_50 (by decide) ?_
        refine x_goto C (tgt := 55) dX6_readRoom_51 (by decide) ?_
        exact hJ23 (1 : Int32) _ h hret
  refine x_icmp_ge C (tgt := 17) dX6_readRoom_10 (by decide) (fun hc29 => ?_) (fun hc29 => ?_)
  · rw [if_pos hc29] at h
    refine x_iconst C (v := 0) dX6_readRoom_17 (by decide) ?_
    refine x_sub [1, 0] rfl ?_
    exact hJ28 (0 : Int32) _ h hret
  · rw [if_neg hc29] at h
    refine x_iconst C (v := 1) dX6_readRoom_13 (by decide) ?_
    refine x_goto C (tgt := 18) dX6_readRoom_14 (by decide) ?_
    refine x_sub [1, 0] rfl ?_
    exact hJ28 (1 : Int32) _ h hret
def fX6_readSetting (p1 : Int32) (p2 : Int32) (μ : Mem) : Option (Mem) := ((fX6_goesOn μ).bind fun q1 => ((fX6_readValue (0 : Int32) p2 q1).bind fun q2 => ((fX6_ends q2.2).bind fun q3 => ((fX6_isWell q3).bind fun q4 => (if q4 = 0 then (some q3) else ((fX6_set p1 q2.1 q3).bind fun q5 => (some q5)))))))
set_option maxHeartbeats 4000000 in
set_option maxRecDepth 100000 in
theorem okX6_readSetting (l : Launch) (cy : Nat → ClassId) (D : va_G) (B : Nat) (ek : EK) (p1 : Int32) (p2 : Int32) (σ μ ω : Mem) (res : Mem) (h : fX6_readSetting p1 p2 μ = some res) : CT l cy D B ek yX6_readSetting cX6_readSetting 4 none ({ frames := 5, cells := 0, slots := 0, locals := 107 } : Room) [.ref (B + oMd), .int p1, .int p2] σ μ ω none σ res ω := by
  refine met_X (own := "HostelBedsModel") (by decide) rfl (Nat.le_of_ble_eq_true rfl) ?_
  intro p e s m args below meth c C hrT hlk
  have hret : ∀ (pc9 : Nat) (lcs9 : List (Nat × Value)), decode cX6_readSetting pc9 = .ok (.return_, 1) → X p l e ({ frames := 5, cells := 0, slots := 0, locals := 107 } : Room) s m args below meth c 4 cy D B 0 0 (MQ below (QR cy D B none σ res ω) args s 0 0 (aB B)) pc9 lcs9 [] σ res ω := fun _ _ hd => x_vret C hrT hlk hd
  generalize (MQ below (QR cy D B none σ res ω) args s 0 0 (aB B)) = Q at hret ⊢
  obtain ⟨R, hR9⟩ : ∃ R : Room, R = ({ frames := 5, cells := 0, slots := 0, locals := 107 } : Room) := ⟨_, rfl⟩
  rw [← hR9] at hret ⊢
  unfold fX6_readSetting at h
  show X p l e R s m args below meth c 4 cy D B 0 0 Q 0 [(0, .ref (B + oMd)), (1, .int p1), (2, .int p2)] [] σ μ ω
  refine x_aload_n C dX6_readSetting_0 rfl 0 rfl ?_
  obtain ⟨q1, hk1, h⟩ := Option.bind_eq_some_iff.mp h
  refine x_callV C (As := []) (rest := []) (lw_g_mk tw_1304 rfl) (lw_g_mk tsel_33 rfl) (c_Md) (C1 := "HostelBedsModel") (T := TX6) (N := 27) (ci := 6) rfl (okX6_goesOn l cy D B ek σ μ ω _ hk1) rfl rfl (by rw [hR9]; decide) (lw_g_mk tw_1305 rfl) (lw_g_mk tw_7 rfl) (by decide) rfl (lw_g_mk tw_1302 rfl) rfl (Nat.le_of_ble_eq_true rfl) dX6_readSetting_1 (by rw [hR9]; decide) ?_
  refine x_aload_n C dX6_readSetting_4 rfl 0 rfl ?_
  refine x_iconst C (v := 0) dX6_readSetting_5 (by decide) ?_
  refine x_iload_n C dX6_readSetting_6 rfl 2 rfl ?_
  obtain ⟨q2, hk2, h⟩ := Option.bind_eq_some_iff.mp h
  refine x_callV C (As := [.int (0 : Int32), .int p2]) (rest := []) (lw_g_mk tw_1315 rfl) (lw_g_mk tsel_35 rfl) (c_Md) (C1 := "HostelBedsModel") (T := TX6) (N := 27) (ci := 6) rfl (okX6_readValue l cy D B ek (0 : Int32) p2 σ q1 ω _ hk2) rfl rfl (by rw [hR9]; decide) (lw_g_mk tw_1316 rfl) (lw_g_mk tw_7 rfl) (by decide) rfl (lw_g_mk tw_1313 rfl) rfl (Nat.le_of_ble_eq_true rfl) dX6_readSetting_7 (by rw [hR9]; decide) ?_
  refine x_istore_n C [(3, .int q2.1), (0, .ref (B + oMd)), (1, .int p1), (2, .int p2)] dX6_readSetting_10 rfl (by decide) rfl ?_
  refine x_aload_n C dX6_readSetting_11 rfl 1 rfl ?_
  obtain ⟨q3, hk3, h⟩ := Option.bind_eq_some_iff.mp h
  refine x_callV C (As := []) (rest := []) (lw_g_mk tw_1319 rfl) (lw_g_mk tsel_36 rfl) (c_Md) (C1 := "HostelBedsModel") (T := TX6) (N := 27) (ci := 6) rfl (okX6_ends l cy D B ek σ q2.2 ω _ hk3) rfl rfl (by rw [hR9]; decide) (lw_g_mk tw_1320 rfl) (lw_g_mk tw_7 rfl) (by decide) rfl (lw_g_mk tw_1317 rfl) rfl (Nat.le_of_ble_eq_true rfl) dX6_readSetting_12 (by rw [hR9]; decide) ?_
  refine x_aload_n C dX6_readSetting_15 rfl 1 rfl ?_
  obtain ⟨q4, hk4, h⟩ := Option.bind_eq_some_iff.mp h
  refine x_callV C (As := []) (rest := []) (lw_g_mk tw_1273 rfl) (lw_g_mk tsel_27 rfl) (c_Md) (C1 := "HostelBedsModel") (T := TX6) (N := 27) (ci := 6) rfl (okX6_isWell l cy D B ek σ q3 ω _ hk4) rfl rfl (by rw [hR9]; decide) (lw_g_mk tw_1274 rfl) (lw_g_mk tw_7 rfl) (by decide) rfl (lw_g_mk tw_1271 rfl) rfl (Nat.le_of_ble_eq_true rfl) dX6_readSetting_16 (by rw [hR9]; decide) ?_
  refine x_if_eq C (tgt := 28) dX6_readSetting_19 (by decide) (fun hc5 => ?_) (fun hc5 => ?_)
  · rw [if_pos hc5] at h
    cases h
    exact hret _ _ dX6_readSetting_28
  · rw [if_neg hc5] at h
    refine x_aload_n C dX6_readSetting_22 rfl 1 rfl ?_
    refine x_iload_n C dX6_readSetting_23 rfl 2 rfl ?_
    refine x_iload_n C dX6_readSetting_24 rfl 0 rfl ?_
    obtain ⟨q5, hk6, h⟩ := Option.bind_eq_some_iff.mp h
    refine x_callV C (As := [.int p1, .int q2.1]) (rest := []) (lw_g_mk tw_1323 rfl) (lw_g_mk tsel_37 rfl) (c_Md) (C1 := "HostelBedsModel") (T := TX6) (N := 27) (ci := 6) rfl (okX6_set l cy D B ek p1 q2.1 σ q3 ω _ hk6) rfl rfl (by rw [hR9]; decide) (lw_g_mk tw_1324 rfl) (lw_g_mk tw_7 rfl) (by decide) rfl (lw_g_mk tw_1321 rfl) rfl (Nat.le_of_ble_eq_true rfl) dX6_readSetting_25 (by rw [hR9]; decide) ?_
    cases h
    exact hret _ _ dX6_readSetting_28
def fX6_readOffer (μ : Mem) : Option (Mem) := ((fX6_goesOn μ).bind fun q1 => ((fX6_readValue (2 : Int32) (30 : Int32) q1).bind fun q2 => ((fX6_readValue (0 : Int32) (50 : Int32) q2.2).bind fun q3 => ((fX6_ends q3.2).bind fun q4 => ((fX6_isWell q4).bind fun q5 => (if ¬ q5 = 0 then ((fX6_set (2 : Int32) q2.1 q4).bind fun q6 => ((fX6_set (3 : Int32) q3.1 q6).bind fun q7 => (some q7))) else (some q4)))))))
set_option maxHeartbeats 4000000 in
set_option maxRecDepth 100000 in
theorem okX6_readOffer (l : Launch) (cy : Nat → ClassId) (D : va_G) (B : Nat) (ek : EK) (σ μ ω : Mem) (res : Mem) (h : fX6_readOffer μ = some res) : CT l cy D B ek yX6_readOffer cX6_readOffer 3 none ({ frames := 5, cells := 0, slots := 0, locals := 107 } : Room) [.ref (B + oMd)] σ μ ω none σ res ω := by
  refine met_X (own := "HostelBedsModel") (by decide) rfl (Nat.le_of_ble_eq_true rfl) ?_
  intro p e s m args below meth c C hrT hlk
  have hret : ∀ (pc9 : Nat) (lcs9 : List (Nat × Value)), decode cX6_readOffer pc9 = .ok (.return_, 1) → X p l e ({ frames := 5, cells := 0, slots := 0, locals := 107 } : Room) s m args below meth c 3 cy D B 0 0 (MQ below (QR cy D B none σ res ω) args s 0 0 (aB B)) pc9 lcs9 [] σ res ω := fun _ _ hd => x_vret C hrT hlk hd
  generalize (MQ below (QR cy D B none σ res ω) args s 0 0 (aB B)) = Q at hret ⊢
  obtain ⟨R, hR9⟩ : ∃ R : Room, R = ({ frames := 5, cells := 0, slots := 0, locals := 107 } : Room) := ⟨_, rfl⟩
  rw [← hR9] at hret ⊢
  unfold fX6_readOffer at h
  show X p l e R s m args below meth c 3 cy D B 0 0 Q 0 [(0, .ref (B + oMd))] [] σ μ ω
  refine x_aload_n C dX6_readOffer_0 rfl 0 rfl ?_
  obtain ⟨q1, hk1, h⟩ := Option.bind_eq_some_iff.mp h
  refine x_callV C (As := []) (rest := []) (lw_g_mk tw_1304 rfl) (lw_g_mk tsel_33 rfl) (c_Md) (C1 := "HostelBedsModel") (T := TX6) (N := 27) (ci := 6) rfl (okX6_goesOn l cy D B ek σ μ ω _ hk1) rfl rfl (by rw [hR9]; decide) (lw_g_mk tw_1305 rfl) (lw_g_mk tw_7 rfl) (by decide) rfl (lw_g_mk tw_1302 rfl) rfl (Nat.le_of_ble_eq_true rfl) dX6_readOffer_1 (by rw [hR9]; decide) ?_
  refine x_aload_n C dX6_readOffer_4 rfl 0 rfl ?_
  refine x_iconst C (v := 2) dX6_readOffer_5 (by decide) ?_
  refine x_bipush C (v := 30) dX6_readOffer_6 (by decide) ?_
  obtain ⟨q2, hk2, h⟩ := Option.bind_eq_some_iff.mp h
  refine x_callV C (As := [.int (2 : Int32), .int (30 : Int32)]) (rest := []) (lw_g_mk tw_1315 rfl) (lw_g_mk tsel_35 rfl) (c_Md) (C1 := "HostelBedsModel") (T := TX6) (N := 27) (ci := 6) rfl (okX6_readValue l cy D B ek (2 : Int32) (30 : Int32) σ q1 ω _ hk2) rfl rfl (by rw [hR9]; decide) (lw_g_mk tw_1316 rfl) (lw_g_mk tw_7 rfl) (by decide) rfl (lw_g_mk tw_1313 rfl) rfl (Nat.le_of_ble_eq_true rfl) dX6_readOffer_8 (by rw [hR9]; decide) ?_
  refine x_istore_n C [(1, .int q2.1), (0, .ref (B + oMd))] dX6_readOffer_11 rfl (by decide) rfl ?_
  refine x_aload_n C dX6_readOffer_12 rfl 1 rfl ?_
  refine x_iconst C (v := 0) dX6_readOffer_13 (by decide) ?_
  refine x_bipush C (v := 50) dX6_readOffer_14 (by decide) ?_
  obtain ⟨q3, hk3, h⟩ := Option.bind_eq_some_iff.mp h
  refine x_callV C (As := [.int (0 : Int32), .int (50 : Int32)]) (rest := []) (lw_g_mk tw_1315 rfl) (lw_g_mk tsel_35 rfl) (c_Md) (C1 := "HostelBedsModel") (T := TX6) (N := 27) (ci := 6) rfl (okX6_readValue l cy D B ek (0 : Int32) (50 : Int32) σ q2.2 ω _ hk3) rfl rfl (by rw [hR9]; decide) (lw_g_mk tw_1316 rfl) (lw_g_mk tw_7 rfl) (by decide) rfl (lw_g_mk tw_1313 rfl) rfl (Nat.le_of_ble_eq_true rfl) dX6_readOffer_16 (by rw [hR9]; decide) ?_
  refine x_istore_n C [(2, .int q3.1), (1, .int q2.1), (0, .ref (B + oMd))] dX6_readOffer_19 rfl (by decide) rfl ?_
  refine x_aload_n C dX6_readOffer_20 rfl 2 rfl ?_
  obtain ⟨q4, hk4, h⟩ := Option.bind_eq_some_iff.mp h
  refine x_callV C (As := []) (rest := []) (lw_g_mk tw_1319 rfl) (lw_g_mk tsel_36 rfl) (c_Md) (C1 := "HostelBedsModel") (T := TX6) (N := 27) (ci := 6) rfl (okX6_ends l cy D B ek σ q3.2 ω _ hk4) rfl rfl (by rw [hR9]; decide) (lw_g_mk tw_1320 rfl) (lw_g_mk tw_7 rfl) (by decide) rfl (lw_g_mk tw_1317 rfl) rfl (Nat.le_of_ble_eq_true rfl) dX6_readOffer_21 (by rw [hR9]; decide) ?_
  refine x_aload_n C dX6_readOffer_24 rfl 2 rfl ?_
  obtain ⟨q5, hk5, h⟩ := Option.bind_eq_some_iff.mp h
  refine x_callV C (As := []) (rest := []) (lw_g_mk tw_1273 rfl) (lw_g_mk tsel_27 rfl) (c_Md) (C1 := "HostelBedsModel") (T := TX6) (N := 27) (ci := 6) rfl (okX6_isWell l cy D B ek σ q4 ω _ hk5) rfl rfl (by rw [hR9]; decide) (lw_g_mk tw_1274 rfl) (lw_g_mk tw_7 rfl) (by decide) rfl (lw_g_mk tw_1271 rfl) rfl (Nat.le_of_ble_eq_true rfl) dX6_readOffer_25 (by rw [hR9]; decide) ?_
  refine x_if_ne C (tgt := 32) dX6_readOffer_28 (by decide) (fun hc6 => ?_) (fun hc6 => ?_)
  · rw [if_pos hc6] at h
    refine x_aload_n C dX6_readOffer_32 rfl 2 rfl ?_
    refine x_iconst C (v := 2) dX6_readOffer_33 (by decide) ?_
    refine x_iload_n C dX6_readOffer_34 rfl 1 rfl ?_
    obtain ⟨q6, hk7, h⟩ := Option.bind_eq_some_iff.mp h
    refine x_callV C (As := [.int (2 : Int32), .int q2.1]) (rest := []) (lw_g_mk tw_1323 rfl) (lw_g_mk tsel_37 rfl) (c_Md) (C1 := "HostelBedsModel") (T := TX6) (N := 27) (ci := 6) rfl (okX6_set l cy D B ek (2 : Int32) q2.1 σ q4 ω _ hk7) rfl rfl (by rw [hR9]; decide) (lw_g_mk tw_1324 rfl) (lw_g_mk tw_7 rfl) (by decide) rfl (lw_g_mk tw_1321 rfl) rfl (Nat.le_of_ble_eq_true rfl) dX6_readOffer_35 (by rw [hR9]; decide) ?_
    refine x_aload_n C dX6_readOffer_38 rfl 2 rfl ?_
    refine x_iconst C (v := 3) dX6_readOffer_39 (by decide) ?_
    refine x_iload_n C dX6_readOffer_40 rfl 0 rfl ?_
    obtain ⟨q7, hk8, h⟩ := Option.bind_eq_some_iff.mp h
    refine x_callV C (As := [.int (3 : Int32), .int q3.1]) (rest := []) (lw_g_mk tw_1323 rfl) (lw_g_mk tsel_37 rfl) (c_Md) (C1 := "HostelBedsModel") (T := TX6) (N := 27) (ci := 6) rfl (okX6_set l cy D B ek (3 : Int32) q3.1 σ q6 ω _ hk8) rfl rfl (by rw [hR9]; decide) (lw_g_mk tw_1324 rfl) (lw_g_mk tw_7 rfl) (by decide) rfl (lw_g_mk tw_1321 rfl) rfl (Nat.le_of_ble_eq_true rfl) dX6_readOffer_41 (by rw [hR9]; decide) ?_
    cases h
    exact hret _ _ dX6_readOffer_44
  · rw [if_neg hc6] at h
    cases h
    exact hret _ _ dX6_readOffer_31
def stX6_allBeds_4 (μ : Mem) (a4 : Int32 × Int32) : Option ((Int32 × Int32) ⊕ (Int32)) := ((fX6_get (4 : Int32) μ).bind fun q1 => (if q1 ≤ a4.2 then (some (.inr a4.1)) else ((fX6_roomIs a4.2 (1 : Int32) μ).bind fun q2 => (some (.inl (a4.1 + q2, a4.2 + (1 : Int32)))))))
def fX6_allBeds (μ : Mem) : Option (Int32) := ((loop (stX6_allBeds_4 μ) 5000 ((0 : Int32), (0 : Int32))).bind fun b4 => (some b4))
set_option maxHeartbeats 4000000 in
set_option maxRecDepth 100000 in
theorem okX6_allBeds (l : Launch) (cy : Nat → ClassId) (D : va_G) (B : Nat) (ek : EK) (σ μ ω : Mem) (res : Int32) (h : fX6_allBeds μ = some res) : CT l cy D B ek yX6_allBeds cX6_allBeds 3 (some .int) ({ frames := 2, cells := 0, slots := 0, locals := 43 } : Room) [.ref (B + oMd)] σ μ ω (some (.int res)) σ μ ω := by
  refine met_X (own := "HostelBedsModel") (by decide) rfl (Nat.le_of_ble_eq_true rfl) ?_
  intro p e s m args below meth c C hrT hlk
  have hret : ∀ (pc9 : Nat) (lcs9 : List (Nat × Value)), decode cX6_allBeds pc9 = .ok (.ireturn, 1) → narrow .int (.int res) = .int res → X p l e ({ frames := 2, cells := 0, slots := 0, locals := 43 } : Room) s m args below meth c 3 cy D B 0 0 (MQ below (QR cy D B (some (.int res)) σ μ ω) args s 0 0 (aB B)) pc9 lcs9 [.int res] σ μ ω := fun _ _ hd hn => x_zret C hrT hlk hn hd
  generalize (MQ below (QR cy D B (some (.int res)) σ μ ω) args s 0 0 (aB B)) = Q at hret ⊢
  obtain ⟨R, hR9⟩ : ∃ R : Room, R = ({ frames := 2, cells := 0, slots := 0, locals := 43 } : Room) := ⟨_, rfl⟩
  rw [← hR9] at hret ⊢
  unfold fX6_allBeds at h
  show X p l e R s m args below meth c 3 cy D B 0 0 Q 0 [(0, .ref (B + oMd))] [] σ μ ω
  refine x_iconst C (v := 0) dX6_allBeds_0 (by decide) ?_
  refine x_istore_n C [(1, .int (0 : Int32)), (0, .ref (B + oMd))] dX6_allBeds_1 rfl (by decide) rfl ?_
  refine x_iconst C (v := 0) dX6_allBeds_2 (by decide) ?_
  refine x_istore_n C [(2, .int (0 : Int32)), (1, .int (0 : Int32)), (0, .ref (B + oMd))] dX6_allBeds_3 rfl (by decide) rfl ?_
  obtain ⟨b4, hk6, h⟩ := Option.bind_eq_some_iff.mp h
  refine x_sub [2, 1, 0] rfl ?_
  refine loop_run (step := stX6_allBeds_4 μ) (P := fun (a4 : Int32 × Int32) => X p l e R s m args below meth c 3 cy D B 0 0 Q 4 [(0, .ref (B + oMd)), (1, .int a4.1), (2, .int a4.2)] [] σ μ ω) (K := fun (b4 : Int32) => X p l e R s m args below meth c 3 cy D B 0 0 Q 28 [(1, .int b4)] [] σ μ ω) ?_ 5000 ((0 : Int32), (0 : Int32)) b4 hk6 ?_
  · intro a4 r h hA1 hB2
    unfold stX6_allBeds_4 at h
    refine x_iload_n C dX6_allBeds_4 rfl 2 rfl ?_
    refine x_aload_n C dX6_allBeds_5 rfl 0 rfl ?_
    refine x_iconst C (v := 4) dX6_allBeds_6 (by decide) ?_
    obtain ⟨q1, hk3, h⟩ := Option.bind_eq_some_iff.mp h
    refine x_callV C (As := [.int (4 : Int32)]) (rest := [.int a4.2]) (lw_g_mk tw_1296 rfl) (lw_g_mk tsel_31 rfl) (c_Md) (C1 := "HostelBedsModel") (T := TX6) (N := 27) (ci := 6) rfl (okX6_get l cy D B ek (4 : Int32) σ μ ω _ hk3) rfl rfl (by rw [hR9]; decide) (lw_g_mk tw_1297 rfl) (lw_g_mk tw_7 rfl) (by decide) rfl (lw_g_mk tw_1294 rfl) rfl (Nat.le_of_ble_eq_true rfl) dX6_allBeds_7 (by rw [hR9]; decide) ?_
    refine x_icmp_ge C (tgt := 28) dX6_allBeds_10 (by decide) (fun hc4 => ?_) (fun hc4 => ?_)
    · rw [if_pos hc4] at h
      cases h
      refine x_sub [1] rfl ?_
      exact hB2 a4.1 rfl
    · rw [if_neg hc4] at h
      refine x_iload_n C dX6_allBeds_13 rfl 1 rfl ?_
      refine x_aload_n C dX6_allBeds_14 rfl 0 rfl ?_
      refine x_iload_n C dX6_allBeds_15 rfl 2 rfl ?_
      refine x_iconst C (v := 1) dX6_allBeds_16 (by decide) ?_
      obtain ⟨q2, hk5, h⟩ := Option.bind_eq_some_iff.mp h
      refine x_callV C (As := [.int a4.2, .int (1 : Int32)]) (rest := [.int a4.1]) (lw_g_mk tw_1359 rfl) (lw_g_mk tsel_46 rfl) (c_Md) (C1 := "HostelBedsModel") (T := TX6) (N := 27) (ci := 6) rfl (okX6_roomIs l cy D B ek a4.2 (1 : Int32) σ μ ω _ hk5) rfl rfl (by rw [hR9]; decide) (lw_g_mk tw_1360 rfl) (lw_g_mk tw_7 rfl) (by decide) rfl (lw_g_mk tw_1357 rfl) rfl (Nat.le_of_ble_eq_true rfl) dX6_allBeds_17 (by rw [hR9]; decide) ?_
      refine x_iadd C dX6_allBeds_20 ?_
      refine x_istore_n C [(1, .int (a4.1 + q2)), (0, .ref (B + oMd)), (2, .int a4.2)] dX6_allBeds_21 rfl (by decide) rfl ?_
      refine x_iinc C (k := 2) [(2, .int (a4.2 + (1 : Int32))), (1, .int (a4.1 + q2)), (0, .ref (B + oMd))] dX6_allBeds_22 rfl rfl (by decide) rfl ?_
      refine x_goto C (tgt := 4) dX6_allBeds_25 (by decide) ?_
      cases h
      refine x_sub [2, 1, 0] rfl ?_
      exact hA1 (a4.1 + q2, a4.2 + (1 : Int32)) rfl
  · show X p l e R s m args below meth c 3 cy D B 0 0 Q 28 [(1, .int b4)] [] σ μ ω
    refine x_iload_n C dX6_allBeds_28 rfl 0 rfl ?_
    cases h
    exact hret _ _ dX6_allBeds_29 rfl
def jX6_bookedIn_44 (a4 : Int32 × Int32) (t3 : Int32) : Option ((Int32 × Int32) ⊕ (Int32)) := (some (.inl (a4.1 + t3, a4.2 + (1 : Int32))))
def jX6_bookedIn_43 (a4 : Int32 × Int32) : Option ((Int32 × Int32) ⊕ (Int32)) := (jX6_bookedIn_44 a4 (0 : Int32))
def stX6_bookedIn_4 (μ : Mem) (p1 : Int32) (a4 : Int32 × Int32) : Option ((Int32 × Int32) ⊕ (Int32)) := ((fX6_get (37 : Int32) μ).bind fun q1 => (if q1 ≤ a4.2 then (some (.inr a4.1)) else ((fX6_of a4.2 (8 : Int32) μ).bind fun q2 => (if ¬ q2 = (1 : Int32) then (jX6_bookedIn_43 a4) else ((fX6_staysIn a4.2 p1 μ).bind fun q4 => (if q4 = 0 then (jX6_bookedIn_43 a4) else ((fX6_persons a4.2 μ).bind fun q5 => (jX6_bookedIn_44 a4 q5))))))))
def fX6_bookedIn (p1 : Int32) (μ : Mem) : Option (Int32) := ((loop (stX6_bookedIn_4 μ p1) 5000 ((0 : Int32), (0 : Int32))).bind fun b4 => (some b4))
set_option maxHeartbeats 4000000 in
set_option maxRecDepth 100000 in
theorem okX6_bookedIn (l : Launch) (cy : Nat → ClassId) (D : va_G) (B : Nat) (ek : EK) (p1 : Int32) (σ μ ω : Mem) (res : Int32) (h : fX6_bookedIn p1 μ = some res) : CT l cy D B ek yX6_bookedIn cX6_bookedIn 4 (some .int) ({ frames := 3, cells := 0, slots := 0, locals := 65 } : Room) [.ref (B + oMd), .int p1] σ μ ω (some (.int res)) σ μ ω := by
  refine met_X (own := "HostelBedsModel") (by decide) rfl (Nat.le_of_ble_eq_true rfl) ?_
  intro p e s m args below meth c C hrT hlk
  have hret : ∀ (pc9 : Nat) (lcs9 : List (Nat × Value)), decode cX6_bookedIn pc9 = .ok (.ireturn, 1) → narrow .int (.int res) = .int res → X p l e ({ frames := 3, cells := 0, slots := 0, locals := 65 } : Room) s m args below meth c 4 cy D B 0 0 (MQ below (QR cy D B (some (.int res)) σ μ ω) args s 0 0 (aB B)) pc9 lcs9 [.int res] σ μ ω := fun _ _ hd hn => x_zret C hrT hlk hn hd
  generalize (MQ below (QR cy D B (some (.int res)) σ μ ω) args s 0 0 (aB B)) = Q at hret ⊢
  obtain ⟨R, hR9⟩ : ∃ R : Room, R = ({ frames := 3, cells := 0, slots := 0, locals := 65 } : Room) := ⟨_, rfl⟩
  rw [← hR9] at hret ⊢
  unfold fX6_bookedIn at h
  show X p l e R s m args below meth c 4 cy D B 0 0 Q 0 [(0, .ref (B + oMd)), (1, .int p1)] [] σ μ ω
  refine x_iconst C (v := 0) dX6_bookedIn_0 (by decide) ?_
  refine x_istore_n C [(2, .int (0 : Int32)), (0, .ref (B + oMd)), (1, .int p1)] dX6_bookedIn_1 rfl (by decide) rfl ?_
  refine x_iconst C (v := 0) dX6_bookedIn_2 (by decide) ?_
  refine x_istore_n C [(3, .int (0 : Int32)), (2, .int (0 : Int32)), (0, .ref (B + oMd)), (1, .int p1)] dX6_bookedIn_3 rfl (by decide) rfl ?_
  obtain ⟨b4, hk12, h⟩ := Option.bind_eq_some_iff.mp h
  refine x_sub [2, 3, 1, 0] rfl ?_
  refine loop_run (step := stX6_bookedIn_4 μ p1) (P := fun (a4 : Int32 × Int32) => X p l e R s m args below meth c 4 cy D B 0 0 Q 4 [(0, .ref (B + oMd)), (1, .int p1), (2, .int a4.1), (3, .int a4.2)] [] σ μ ω) (K := fun (b4 : Int32) => X p l e R s m args below meth c 4 cy D B 0 0 Q 52 [(2, .int b4)] [] σ μ ω) ?_ 5000 ((0 : Int32), (0 : Int32)) b4 hk12 ?_
  · intro a4 r h hA1 hB2
    unfold stX6_bookedIn_4 at h
    refine x_iload_n C dX6_bookedIn_4 rfl 3 rfl ?_
    refine x_aload_n C dX6_bookedIn_5 rfl 0 rfl ?_
    refine x_bipush C (v := 37) dX6_bookedIn_6 (by decide) ?_
    obtain ⟨q1, hk3, h⟩ := Option.bind_eq_some_iff.mp h
    refine x_callV C (As := [.int (37 : Int32)]) (rest := [.int a4.2]) (lw_g_mk tw_1296 rfl) (lw_g_mk tsel_31 rfl) (c_Md) (C1 := "HostelBedsModel") (T := TX6) (N := 27) (ci := 6) rfl (okX6_get l cy D B ek (37 : Int32) σ μ ω _ hk3) rfl rfl (by rw [hR9]; decide) (lw_g_mk tw_1297 rfl) (lw_g_mk tw_7 rfl) (by decide) rfl (lw_g_mk tw_1294 rfl) rfl (Nat.le_of_ble_eq_true rfl) dX6_bookedIn_8 (by rw [hR9]; decide) ?_
    refine x_icmp_ge C (tgt := 52) dX6_bookedIn_11 (by decide) (fun hc4 => ?_) (fun hc4 => ?_)
    · rw [if_pos hc4] at h
      cases h
      refine x_sub [2] rfl ?_
      exact hB2 a4.1 rfl
    · rw [if_neg hc4] at h
      refine x_iload_n C dX6_bookedIn_14 rfl 2 rfl ?_
      refine x_aload_n C dX6_bookedIn_15 rfl 0 rfl ?_
      refine x_iload_n C dX6_bookedIn_16 rfl 3 rfl ?_
      refine x_bipush C (v := 8) dX6_bookedIn_17 (by decide) ?_
      obtain ⟨q2, hk5, h⟩ := Option.bind_eq_some_iff.mp h
      refine x_callV C (As := [.int a4.2, .int (8 : Int32)]) (rest := [.int a4.1]) (lw_g_mk tw_1367 rfl) (lw_g_mk tsel_48 rfl) (c_Md) (C1 := "HostelBedsModel") (T := TX6) (N := 27) (ci := 6) rfl (okX6_of l cy D B ek a4.2 (8 : Int32) σ μ ω _ hk5) rfl rfl (by rw [hR9]; decide) (lw_g_mk tw_1368 rfl) (lw_g_mk tw_7 rfl) (by decide) rfl (lw_g_mk tw_1365 rfl) rfl (Nat.le_of_ble_eq_true rfl) dX6_bookedIn_19 (by rw [hR9]; decide) ?_
      refine x_iconst C (v := 1) dX6_bookedIn_22 (by decide) ?_
      have hJ6 : ∀ (t3 : Int32) (r9 : (Int32 × Int32) ⊕ (Int32)), jX6_bookedIn_44 a4 t3 = some r9 → (∀ a2, r9 = .inl a2 → (fun (a4 : Int32 × Int32) => X p l e R s m args below meth c 4 cy D B 0 0 Q 4 [(0, .ref (B + oMd)), (1, .int p1), (2, .int a4.1), (3, .int a4.2)] [] σ μ ω) a2) → (∀ b2, r9 = .inr b2 → (fun (b4 : Int32) => X p l e R s m args below meth c 4 cy D B 0 0 Q 52 [(2, .int b4)] [] σ μ ω) b2) → X p l e R s m args below meth c 4 cy D B 0 0 Q 44 [(0, .ref (B + oMd)), (1, .int p1), (3, .int a4.2)] [.int t3, .int a4.1] σ μ ω := by
        intro t3 r h hA1 hB2
        unfold jX6_bookedIn_44 at h
        refine x_iadd C dX6_bookedIn_44 ?_
        refine x_istore_n C [(2, .int (a4.1 + t3)), (0, .ref (B + oMd)), (1, .int p1), (3, .int a4.2)] dX6_bookedIn_45 rfl (by decide) rfl ?_
        refine x_iinc C (k := 3) [(3, .int (a4.2 + (1 : Int32))), (2, .int (a4.1 + t3)), (0, .ref (B + oMd)), (1, .int p1)] dX6_bookedIn_46 rfl rfl (by decide) rfl ?_
        refine x_goto C (tgt := 4) dX6_bookedIn_49 (by decide) ?_
        cases h
        refine x_sub [2, 3, 1, 0] rfl ?_
        exact hA1 (a4.1 + t3, a4.2 + (1 : Int32)) rfl
      have hJ7 : ∀ (r9 : (Int32 × Int32) ⊕ (Int32)), jX6_bookedIn_43 a4 = some r9 → (∀ a2, r9 = .inl a2 → (fun (a4 : Int32 × Int32) => X p l e R s m args below meth c 4 cy D B 0 0 Q 4 [(0, .ref (B + oMd)), (1, .int p1), (2, .int a4.1), (3, .int a4.2)] [] σ μ ω) a2) → (∀ b2, r9 = .inr b2 → (fun (b4 : Int32) => X p l e R s m args below meth c 4 cy D B 0 0 Q 52 [(2, .int b4)] [] σ μ ω) b2) → X p l e R s m args below meth c 4 cy D B 0 0 Q 43 [(0, .ref (B + oMd)), (1, .int p1), (3, .int a4.2)] [.int a4.1] σ μ ω := by
        intro r h hA1 hB2
        unfold jX6_bookedIn_43 at h
        refine x_iconst C (v := 0) dX6_bookedIn_43 (by decide) ?_
        exact hJ6 (0 : Int32) _ h hA1 hB2
      refine x_icmp_ne C (tgt := 43) dX6_bookedIn_23 (by decide) (fun hc8 => ?_) (fun hc8 => ?_)
      · rw [if_pos hc8] at h
        refine x_sub [0, 1, 3] rfl ?_
        exact hJ7 _ h hA1 hB2
      · rw [if_neg hc8] at h
        refine x_aload_n C dX6_bookedIn_26 rfl 0 rfl ?_
        refine x_iload_n C dX6_bookedIn_27 rfl 3 rfl ?_
        refine x_iload_n C dX6_bookedIn_28 rfl 1 rfl ?_
        obtain ⟨q4, hk9, h⟩ := Option.bind_eq_some_iff.mp h
        refine x_callV C (As := [.int a4.2, .int p1]) (rest := [.int a4.1]) (lw_g_mk tw_1363 rfl) (lw_g_mk tsel_47 rfl) (c_Md) (C1 := "HostelBedsModel") (T := TX6) (N := 27) (ci := 6) rfl (okX6_staysIn l cy D B ek a4.2 p1 σ μ ω _ hk9) rfl rfl (by rw [hR9]; decide) (lw_g_mk tw_1364 rfl) (lw_g_mk tw_7 rfl) (by decide) rfl (lw_g_mk tw_1361 rfl) rfl (Nat.le_of_ble_eq_true rfl) dX6_bookedIn_29 (by rw [hR9]; decide) ?_
        refine x_if_eq C (tgt := 43) dX6_bookedIn_32 (by decide) (fun hc10 => ?_) (fun hc10 => ?_)
        · rw [if_pos hc10] at h
          refine x_sub [0, 1, 3] rfl ?_
          exact hJ7 _ h hA1 hB2
        · rw [if_neg hc10] at h
          refine x_aload_n C dX6_bookedIn_35 rfl 0 rfl ?_
          refine x_iload_n C dX6_bookedIn_36 rfl 3 rfl ?_
          obtain ⟨q5, hk11, h⟩ := Option.bind_eq_some_iff.mp h
          refine x_callV C (As := [.int a4.2]) (rest := [.int a4.1]) (lw_g_mk tw_1375 rfl) (lw_g_mk tsel_50 rfl) (c_Md) (C1 := "HostelBedsModel") (T := TX6) (N := 27) (ci := 6) rfl (okX6_persons l cy D B ek a4.2 σ μ ω _ hk11) rfl rfl (by rw [hR9]; decide) (lw_g_mk tw_1376 rfl) (lw_g_mk tw_7 rfl) (by decide) rfl (lw_g_mk tw_1373 rfl) rfl (Nat.le_of_ble_eq_true rfl) dX6_bookedIn_37 (by rw [hR9]; decide) ?_
          refine x_goto C (tgt := 44) dX6_bookedIn_40 (by decide) ?_
          refine x_sub [0, 1, 3] rfl ?_
          exact hJ6 q5 _ h hA1 hB2
  · show X p l e R s m args below meth c 4 cy D B 0 0 Q 52 [(2, .int b4)] [] σ μ ω
    refine x_iload_n C dX6_bookedIn_52 rfl 0 rfl ?_
    cases h
    exact hret _ _ dX6_bookedIn_53 rfl
def jX6_canBeAccepted_51 (a19 : Int32) : Option ((Int32) ⊕ ((Unit) ⊕ (Int32))) := (some (.inl (a19 + (1 : Int32))))
def stX6_canBeAccepted_19 (p1 : Int32) (μ : Mem) (q1 : Int32) (q2 : Int32) (a19 : Int32) : Option ((Int32) ⊕ ((Unit) ⊕ (Int32))) := (if (30 : Int32) ≤ a19 then (some (.inr (.inl ()))) else ((fX6_staysIn p1 a19 μ).bind fun q3 => (if q3 = 0 then (jX6_canBeAccepted_51 a19) else ((fX6_bookedIn a19 μ).bind fun q4 => ((fX6_persons p1 μ).bind fun q5 => (if (q4 + q5) ≤ ((q1 * ((100 : Int32) + q2)) / (100 : Int32)) then (jX6_canBeAccepted_51 a19) else (some (.inr (.inr ((0 : Int32)))))))))))
def fX6_canBeAccepted (p1 : Int32) (μ : Mem) : Option (Int32) := ((fX6_allBeds μ).bind fun q1 => ((fX6_get (0 : Int32) μ).bind fun q2 => ((loop (stX6_canBeAccepted_19 p1 μ q1 q2) 5000 ((0 : Int32))).bind fun b19 => Sum.elim (fun z19 => (some ((1 : Int32)))) (fun w19 => (some w19)) b19)))
set_option maxHeartbeats 4000000 in
set_option maxRecDepth 100000 in
theorem okX6_canBeAccepted (l : Launch) (cy : Nat → ClassId) (D : va_G) (B : Nat) (ek : EK) (p1 : Int32) (σ μ ω : Mem) (res : Int32) (h : fX6_canBeAccepted p1 μ = some res) : CT l cy D B ek yX6_canBeAccepted cX6_canBeAccepted 4 (some .boolean) ({ frames := 4, cells := 0, slots := 0, locals := 88 } : Room) [.ref (B + oMd), .int p1] σ μ ω (some (.int res)) σ μ ω := by
  refine met_X (own := "HostelBedsModel") (by decide) rfl (Nat.le_of_ble_eq_true rfl) ?_
  intro p e s m args below meth c C hrT hlk
  have hret : ∀ (pc9 : Nat) (lcs9 : List (Nat × Value)), decode cX6_canBeAccepted pc9 = .ok (.ireturn, 1) → narrow .boolean (.int res) = .int res → X p l e ({ frames := 4, cells := 0, slots := 0, locals := 88 } : Room) s m args below meth c 4 cy D B 0 0 (MQ below (QR cy D B (some (.int res)) σ μ ω) args s 0 0 (aB B)) pc9 lcs9 [.int res] σ μ ω := fun _ _ hd hn => x_zret C hrT hlk hn hd
  generalize (MQ below (QR cy D B (some (.int res)) σ μ ω) args s 0 0 (aB B)) = Q at hret ⊢
  obtain ⟨R, hR9⟩ : ∃ R : Room, R = ({ frames := 4, cells := 0, slots := 0, locals := 88 } : Room) := ⟨_, rfl⟩
  rw [← hR9] at hret ⊢
  unfold fX6_canBeAccepted at h
  show X p l e R s m args below meth c 4 cy D B 0 0 Q 0 [(0, .ref (B + oMd)), (1, .int p1)] [] σ μ ω
  refine x_aload_n C dX6_canBeAccepted_0 rfl 0 rfl ?_
  obtain ⟨q1, hk1, h⟩ := Option.bind_eq_some_iff.mp h
  refine x_callV C (As := []) (rest := []) (lw_g_mk tw_1355 rfl) (lw_g_mk tsel_45 rfl) (c_Md) (C1 := "HostelBedsModel") (T := TX6) (N := 27) (ci := 6) rfl (okX6_allBeds l cy D B ek σ μ ω _ hk1) rfl rfl (by rw [hR9]; decide) (lw_g_mk tw_1356 rfl) (lw_g_mk tw_7 rfl) (by decide) rfl (lw_g_mk tw_1353 rfl) rfl (Nat.le_of_ble_eq_true rfl) dX6_canBeAccepted_1 (by rw [hR9]; decide) ?_
  refine x_bipush C (v := 100) dX6_canBeAccepted_4 (by decide) ?_
  refine x_aload_n C dX6_canBeAccepted_6 rfl 0 rfl ?_
  refine x_iconst C (v := 0) dX6_canBeAccepted_7 (by decide) ?_
  obtain ⟨q2, hk2, h⟩ := Option.bind_eq_some_iff.mp h
  refine x_callV C (As := [.int (0 : Int32)]) (rest := [.int (100 : Int32), .int q1]) (lw_g_mk tw_1296 rfl) (lw_g_mk tsel_31 rfl) (c_Md) (C1 := "HostelBedsModel") (T := TX6) (N := 27) (ci := 6) rfl (okX6_get l cy D B ek (0 : Int32) σ μ ω _ hk2) rfl rfl (by rw [hR9]; decide) (lw_g_mk tw_1297 rfl) (lw_g_mk tw_7 rfl) (by decide) rfl (lw_g_mk tw_1294 rfl) rfl (Nat.le_of_ble_eq_true rfl) dX6_canBeAccepted_8 (by rw [hR9]; decide) ?_
  refine x_iadd C dX6_canBeAccepted_11 ?_
  refine x_imul C dX6_canBeAccepted_12 ?_
  refine x_bipush C (v := 100) dX6_canBeAccepted_13 (by decide) ?_
  refine x_idiv C dX6_canBeAccepted_15 (by decide) ?_
  refine x_istore_n C [(2, .int ((q1 * ((100 : Int32) + q2)) / (100 : Int32))), (0, .ref (B + oMd)), (1, .int p1)] dX6_canBeAccepted_16 rfl (by decide) rfl ?_
  refine x_iconst C (v := 0) dX6_canBeAccepted_17 (by decide) ?_
  refine x_istore_n C [(3, .int (0 : Int32)), (2, .int ((q1 * ((100 : Int32) + q2)) / (100 : Int32))), (0, .ref (B + oMd)), (1, .int p1)] dX6_canBeAccepted_18 rfl (by decide) rfl ?_
  obtain ⟨b19, hk12, h⟩ := Option.bind_eq_some_iff.mp h
  refine x_sub [2, 3, 1, 0] rfl ?_
  refine loop_run (step := stX6_canBeAccepted_19 p1 μ q1 q2) (P := fun (a19 : Int32) => X p l e R s m args below meth c 4 cy D B 0 0 Q 19 [(0, .ref (B + oMd)), (1, .int p1), (2, .int ((q1 * ((100 : Int32) + q2)) / (100 : Int32))), (3, .int a19)] [] σ μ ω) (K := fun (b19 : (Unit) ⊕ (Int32)) => Sum.elim (fun z19 => X p l e R s m args below meth c 4 cy D B 0 0 Q 57 [] [] σ μ ω) (fun w19 => ∀ (pc9 : Nat) (lcs9 : List (Nat × Value)), decode cX6_canBeAccepted pc9 = .ok (.ireturn, 1) → narrow .boolean (.int w19) = .int w19 → X p l e R s m args below meth c 4 cy D B 0 0 Q pc9 lcs9 [.int w19] σ μ ω) b19) ?_ 5000 ((0 : Int32)) b19 hk12 ?_
  · intro a19 r h hA3 hB4
    unfold stX6_canBeAccepted_19 at h
    refine x_iload_n C dX6_canBeAccepted_19 rfl 3 rfl ?_
    refine x_bipush C (v := 30) dX6_canBeAccepted_20 (by decide) ?_
    refine x_icmp_ge C (tgt := 57) dX6_canBeAccepted_22 (by decide) (fun hc5 => ?_) (fun hc5 => ?_)
    · rw [if_pos hc5] at h
      cases h
      refine x_sub [] rfl ?_
      exact hB4 (.inl ()) rfl
    · rw [if_neg hc5] at h
      refine x_aload_n C dX6_canBeAccepted_25 rfl 0 rfl ?_
      refine x_iload_n C dX6_canBeAccepted_26 rfl 1 rfl ?_
      refine x_iload_n C dX6_canBeAccepted_27 rfl 3 rfl ?_
      obtain ⟨q3, hk6, h⟩ := Option.bind_eq_some_iff.mp h
      refine x_callV C (As := [.int p1, .int a19]) (rest := []) (lw_g_mk tw_1363 rfl) (lw_g_mk tsel_47 rfl) (c_Md) (C1 := "HostelBedsModel") (T := TX6) (N := 27) (ci := 6) rfl (okX6_staysIn l cy D B ek p1 a19 σ μ ω _ hk6) rfl rfl (by rw [hR9]; decide) (lw_g_mk tw_1364 rfl) (lw_g_mk tw_7 rfl) (by decide) rfl (lw_g_mk tw_1361 rfl) rfl (Nat.le_of_ble_eq_true rfl) dX6_canBeAccepted_28 (by rw [hR9]; decide) ?_
      have hJ7 : ∀ (r9 : (Int32) ⊕ ((Unit) ⊕ (Int32))), jX6_canBeAccepted_51 a19 = some r9 → (∀ a2, r9 = .inl a2 → (fun (a19 : Int32) => X p l e R s m args below meth c 4 cy D B 0 0 Q 19 [(0, .ref (B + oMd)), (1, .int p1), (2, .int ((q1 * ((100 : Int32) + q2)) / (100 : Int32))), (3, .int a19)] [] σ μ ω) a2) → (∀ b2, r9 = .inr b2 → (fun (b19 : (Unit) ⊕ (Int32)) => Sum.elim (fun z19 => X p l e R s m args below meth c 4 cy D B 0 0 Q 57 [] [] σ μ ω) (fun w19 => ∀ (pc9 : Nat) (lcs9 : List (Nat × Value)), decode cX6_canBeAccepted pc9 = .ok (.ireturn, 1) → narrow .boolean (.int w19) = .int w19 → X p l e R s m args below meth c 4 cy D B 0 0 Q pc9 lcs9 [.int w19] σ μ ω) b19) b2) → X p l e R s m args below meth c 4 cy D B 0 0 Q 51 [(0, .ref (B + oMd)), (1, .int p1), (2, .int ((q1 * ((100 : Int32) + q2)) / (100 : Int32))), (3, .int a19)] [] σ μ ω := by
        intro r h hA3 hB4
        unfold jX6_canBeAccepted_51 at h
        refine x_iinc C (k := 3) [(3, .int (a19 + (1 : Int32))), (0, .ref (B + oMd)), (1, .int p1), (2, .int ((q1 * ((100 : Int32) + q2)) / (100 : Int32)))] dX6_canBeAccepted_51 rfl rfl (by decide) rfl ?_
        refine x_goto C (tgt := 19) dX6_canBeAccepted_54 (by decide) ?_
        cases h
        refine x_sub [1, 2, 3, 0] rfl ?_
        exact hA3 (a19 + (1 : Int32)) rfl
      refine x_if_eq C (tgt := 51) dX6_canBeAccepted_31 (by decide) (fun hc8 => ?_) (fun hc8 => ?_)
      · rw [if_pos hc8] at h
        exact hJ7 _ h hA3 hB4
      · rw [if_neg hc8] at h
        refine x_aload_n C dX6_canBeAccepted_34 rfl 0 rfl ?_
        refine x_iload_n C dX6_canBeAccepted_35 rfl 3 rfl ?_
        obtain ⟨q4, hk9, h⟩ := Option.bind_eq_some_iff.mp h
        refine x_callV C (As := [.int a19]) (rest := []) (lw_g_mk tw_1371 rfl) (lw_g_mk tsel_49 rfl) (c_Md) (C1 := "HostelBedsModel") (T := TX6) (N := 27) (ci := 6) rfl (okX6_bookedIn l cy D B ek a19 σ μ ω _ hk9) rfl rfl (by rw [hR9]; decide) (lw_g_mk tw_1372 rfl) (lw_g_mk tw_7 rfl) (by decide) rfl (lw_g_mk tw_1369 rfl) rfl (Nat.le_of_ble_eq_true rfl) dX6_canBeAccepted_36 (by rw [hR9]; decide) ?_
        refine x_aload_n C dX6_canBeAccepted_39 rfl 0 rfl ?_
        refine x_iload_n C dX6_canBeAccepted_40 rfl 1 rfl ?_
        obtain ⟨q5, hk10, h⟩ := Option.bind_eq_some_iff.mp h
        refine x_callV C (As := [.int p1]) (rest := [.int q4]) (lw_g_mk tw_1375 rfl) (lw_g_mk tsel_50 rfl) (c_Md) (C1 := "HostelBedsModel") (T := TX6) (N := 27) (ci := 6) rfl (okX6_persons l cy D B ek p1 σ μ ω _ hk10) rfl rfl (by rw [hR9]; decide) (lw_g_mk tw_1376 rfl) (lw_g_mk tw_7 rfl) (by decide) rfl (lw_g_mk tw_1373 rfl) rfl (Nat.le_of_ble_eq_true rfl) dX6_canBeAccepted_41 (by rw [hR9]; decide) ?_
        refine x_iadd C dX6_canBeAccepted_44 ?_
        refine x_iload_n C dX6_canBeAccepted_45 rfl 2 rfl ?_
        refine x_icmp_le C (tgt := 51) dX6_canBeAccepted_46 (by decide) (fun hc11 => ?_) (fun hc11 => ?_)
        · rw [if_pos hc11] at h
          exact hJ7 _ h hA3 hB4
        · rw [if_neg hc11] at h
          refine x_iconst C (v := 0) dX6_canBeAccepted_49 (by decide) ?_
          cases h
          exact hB4 (.inr ((0 : Int32))) rfl _ _ dX6_canBeAccepted_50 (nar_Z (Or.inl rfl))
  · rcases b19 with z19 | w19
    · rw [Sum.elim_inl] at h
      show X p l e R s m args below meth c 4 cy D B 0 0 Q 57 [] [] σ μ ω
      refine x_iconst C (v := 1) dX6_canBeAccepted_57 (by decide) ?_
      cases h
      exact hret _ _ dX6_canBeAccepted_58 (nar_Z (Or.inr rfl))
    · rw [Sum.elim_inr] at h
      show ∀ (pc9 : Nat) (lcs9 : List (Nat × Value)), decode cX6_canBeAccepted pc9 = .ok (.ireturn, 1) → narrow .boolean (.int w19) = .int w19 → X p l e R s m args below meth c 4 cy D B 0 0 Q pc9 lcs9 [.int w19] σ μ ω
      cases h
      exact hret
def fX6_waits (p1 : Int32) (μ : Mem) : Option (Mem) := ((fX6_get (191 : Int32) μ).bind fun q1 => ((fX6_set ((192 : Int32) + q1) p1 μ).bind fun q2 => ((fX6_get (191 : Int32) q2).bind fun q3 => ((fX6_set (191 : Int32) (q3 + (1 : Int32)) q2).bind fun q4 => (some q4)))))
set_option maxHeartbeats 4000000 in
set_option maxRecDepth 100000 in
theorem okX6_waits (l : Launch) (cy : Nat → ClassId) (D : va_G) (B : Nat) (ek : EK) (p1 : Int32) (σ μ ω : Mem) (res : Mem) (h : fX6_waits p1 μ = some res) : CT l cy D B ek yX6_waits cX6_waits 2 none ({ frames := 1, cells := 0, slots := 0, locals := 22 } : Room) [.ref (B + oMd), .int p1] σ μ ω none σ res ω := by
  refine met_X (own := "HostelBedsModel") (by decide) rfl (Nat.le_of_ble_eq_true rfl) ?_
  intro p e s m args below meth c C hrT hlk
  have hret : ∀ (pc9 : Nat) (lcs9 : List (Nat × Value)), decode cX6_waits pc9 = .ok (.return_, 1) → X p l e ({ frames := 1, cells := 0, slots := 0, locals := 22 } : Room) s m args below meth c 2 cy D B 0 0 (MQ below (QR cy D B none σ res ω) args s 0 0 (aB B)) pc9 lcs9 [] σ res ω := fun _ _ hd => x_vret C hrT hlk hd
  generalize (MQ below (QR cy D B none σ res ω) args s 0 0 (aB B)) = Q at hret ⊢
  obtain ⟨R, hR9⟩ : ∃ R : Room, R = ({ frames := 1, cells := 0, slots := 0, locals := 22 } : Room) := ⟨_, rfl⟩
  rw [← hR9] at hret ⊢
  unfold fX6_waits at h
  show X p l e R s m args below meth c 2 cy D B 0 0 Q 0 [(0, .ref (B + oMd)), (1, .int p1)] [] σ μ ω
  refine x_aload_n C dX6_waits_0 rfl 0 rfl ?_
  refine x_sipush C (v := 192) dX6_waits_1 (by decide) ?_
  refine x_aload_n C dX6_waits_4 rfl 0 rfl ?_
  refine x_sipush C (v := 191) dX6_waits_5 (by decide) ?_
  obtain ⟨q1, hk1, h⟩ := Option.bind_eq_some_iff.mp h
  refine x_callV C (As := [.int (191 : Int32)]) (rest := [.int (192 : Int32), .ref (B + oMd)]) (lw_g_mk tw_1296 rfl) (lw_g_mk tsel_31 rfl) (c_Md) (C1 := "HostelBedsModel") (T := TX6) (N := 27) (ci := 6) rfl (okX6_get l cy D B ek (191 : Int32) σ μ ω _ hk1) rfl rfl (by rw [hR9]; decide) (lw_g_mk tw_1297 rfl) (lw_g_mk tw_7 rfl) (by decide) rfl (lw_g_mk tw_1294 rfl) rfl (Nat.le_of_ble_eq_true rfl) dX6_waits_8 (by rw [hR9]; decide) ?_
  refine x_iadd C dX6_waits_11 ?_
  refine x_iload_n C dX6_waits_12 rfl 1 rfl ?_
  obtain ⟨q2, hk2, h⟩ := Option.bind_eq_some_iff.mp h
  refine x_callV C (As := [.int ((192 : Int32) + q1), .int p1]) (rest := []) (lw_g_mk tw_1323 rfl) (lw_g_mk tsel_37 rfl) (c_Md) (C1 := "HostelBedsModel") (T := TX6) (N := 27) (ci := 6) rfl (okX6_set l cy D B ek ((192 : Int32) + q1) p1 σ μ ω _ hk2) rfl rfl (by rw [hR9]; decide) (lw_g_mk tw_1324 rfl) (lw_g_mk tw_7 rfl) (by decide) rfl (lw_g_mk tw_1321 rfl) rfl (Nat.le_of_ble_eq_true rfl) dX6_waits_13 (by rw [hR9]; decide) ?_
  refine x_aload_n C dX6_waits_16 rfl 0 rfl ?_
  refine x_sipush C (v := 191) dX6_waits_17 (by decide) ?_
  refine x_aload_n C dX6_waits_20 rfl 0 rfl ?_
  refine x_sipush C (v := 191) dX6_waits_21 (by decide) ?_
  obtain ⟨q3, hk3, h⟩ := Option.bind_eq_some_iff.mp h
  refine x_callV C (As := [.int (191 : Int32)]) (rest := [.int (191 : Int32), .ref (B + oMd)]) (lw_g_mk tw_1296 rfl) (lw_g_mk tsel_31 rfl) (c_Md) (C1 := "HostelBedsModel") (T := TX6) (N := 27) (ci := 6) rfl (okX6_get l cy D B ek (191 : Int32) σ q2 ω _ hk3) rfl rfl (by rw [hR9]; decide) (lw_g_mk tw_1297 rfl) (lw_g_mk tw_7 rfl) (by decide) rfl (lw_g_mk tw_1294 rfl) rfl (Nat.le_of_ble_eq_true rfl) dX6_waits_24 (by rw [hR9]; decide) ?_
  refine x_iconst C (v := 1) dX6_waits_27 (by decide) ?_
  refine x_iadd C dX6_waits_28 ?_
  obtain ⟨q4, hk4, h⟩ := Option.bind_eq_some_iff.mp h
  refine x_callV C (As := [.int (191 : Int32), .int (q3 + (1 : Int32))]) (rest := []) (lw_g_mk tw_1323 rfl) (lw_g_mk tsel_37 rfl) (c_Md) (C1 := "HostelBedsModel") (T := TX6) (N := 27) (ci := 6) rfl (okX6_set l cy D B ek (191 : Int32) (q3 + (1 : Int32)) σ q2 ω _ hk4) rfl rfl (by rw [hR9]; decide) (lw_g_mk tw_1324 rfl) (lw_g_mk tw_7 rfl) (by decide) rfl (lw_g_mk tw_1321 rfl) rfl (Nat.le_of_ble_eq_true rfl) dX6_waits_29 (by rw [hR9]; decide) ?_
  cases h
  exact hret _ _ dX6_waits_32
def fX6_comes (p1 : Int32) (μ : Mem) : Option (Mem) := ((fX6_canBeAccepted p1 μ).bind fun q1 => (if q1 = 0 then ((fX6_waits p1 μ).bind fun q2 => (some q2)) else ((fX6_lay p1 (8 : Int32) (1 : Int32) μ).bind fun q3 => (some q3))))
set_option maxHeartbeats 4000000 in
set_option maxRecDepth 100000 in
theorem okX6_comes (l : Launch) (cy : Nat → ClassId) (D : va_G) (B : Nat) (ek : EK) (p1 : Int32) (σ μ ω : Mem) (res : Mem) (h : fX6_comes p1 μ = some res) : CT l cy D B ek yX6_comes cX6_comes 2 none ({ frames := 5, cells := 0, slots := 0, locals := 111 } : Room) [.ref (B + oMd), .int p1] σ μ ω none σ res ω := by
  refine met_X (own := "HostelBedsModel") (by decide) rfl (Nat.le_of_ble_eq_true rfl) ?_
  intro p e s m args below meth c C hrT hlk
  have hret : ∀ (pc9 : Nat) (lcs9 : List (Nat × Value)), decode cX6_comes pc9 = .ok (.return_, 1) → X p l e ({ frames := 5, cells := 0, slots := 0, locals := 111 } : Room) s m args below meth c 2 cy D B 0 0 (MQ below (QR cy D B none σ res ω) args s 0 0 (aB B)) pc9 lcs9 [] σ res ω := fun _ _ hd => x_vret C hrT hlk hd
  generalize (MQ below (QR cy D B none σ res ω) args s 0 0 (aB B)) = Q at hret ⊢
  obtain ⟨R, hR9⟩ : ∃ R : Room, R = ({ frames := 5, cells := 0, slots := 0, locals := 111 } : Room) := ⟨_, rfl⟩
  rw [← hR9] at hret ⊢
  unfold fX6_comes at h
  show X p l e R s m args below meth c 2 cy D B 0 0 Q 0 [(0, .ref (B + oMd)), (1, .int p1)] [] σ μ ω
  refine x_aload_n C dX6_comes_0 rfl 0 rfl ?_
  refine x_iload_n C dX6_comes_1 rfl 1 rfl ?_
  obtain ⟨q1, hk1, h⟩ := Option.bind_eq_some_iff.mp h
  refine x_callV C (As := [.int p1]) (rest := []) (lw_g_mk tw_1351 rfl) (lw_g_mk tsel_44 rfl) (c_Md) (C1 := "HostelBedsModel") (T := TX6) (N := 27) (ci := 6) rfl (okX6_canBeAccepted l cy D B ek p1 σ μ ω _ hk1) rfl rfl (by rw [hR9]; decide) (lw_g_mk tw_1352 rfl) (lw_g_mk tw_7 rfl) (by decide) rfl (lw_g_mk tw_1349 rfl) rfl (Nat.le_of_ble_eq_true rfl) dX6_comes_2 (by rw [hR9]; decide) ?_
  refine x_if_eq C (tgt := 19) dX6_comes_5 (by decide) (fun hc2 => ?_) (fun hc2 => ?_)
  · rw [if_pos hc2] at h
    refine x_aload_n C dX6_comes_19 rfl 0 rfl ?_
    refine x_iload_n C dX6_comes_20 rfl 1 rfl ?_
    obtain ⟨q2, hk3, h⟩ := Option.bind_eq_some_iff.mp h
    refine x_callV C (As := [.int p1]) (rest := []) (lw_g_mk tw_1379 rfl) (lw_g_mk tsel_51 rfl) (c_Md) (C1 := "HostelBedsModel") (T := TX6) (N := 27) (ci := 6) rfl (okX6_waits l cy D B ek p1 σ μ ω _ hk3) rfl rfl (by rw [hR9]; decide) (lw_g_mk tw_1380 rfl) (lw_g_mk tw_7 rfl) (by decide) rfl (lw_g_mk tw_1377 rfl) rfl (Nat.le_of_ble_eq_true rfl) dX6_comes_21 (by rw [hR9]; decide) ?_
    cases h
    exact hret _ _ dX6_comes_24
  · rw [if_neg hc2] at h
    refine x_aload_n C dX6_comes_8 rfl 0 rfl ?_
    refine x_iload_n C dX6_comes_9 rfl 1 rfl ?_
    refine x_bipush C (v := 8) dX6_comes_10 (by decide) ?_
    refine x_iconst C (v := 1) dX6_comes_12 (by decide) ?_
    obtain ⟨q3, hk4, h⟩ := Option.bind_eq_some_iff.mp h
    refine x_callV C (As := [.int p1, .int (8 : Int32), .int (1 : Int32)]) (rest := []) (lw_g_mk tw_1343 rfl) (lw_g_mk tsel_42 rfl) (c_Md) (C1 := "HostelBedsModel") (T := TX6) (N := 27) (ci := 6) rfl (okX6_lay l cy D B ek p1 (8 : Int32) (1 : Int32) σ μ ω _ hk4) rfl rfl (by rw [hR9]; decide) (lw_g_mk tw_1344 rfl) (lw_g_mk tw_7 rfl) (by decide) rfl (lw_g_mk tw_1341 rfl) rfl (Nat.le_of_ble_eq_true rfl) dX6_comes_13 (by rw [hR9]; decide) ?_
    refine x_goto C (tgt := 24) dX6_comes_16 (by decide) ?_
    cases h
    exact hret _ _ dX6_comes_24
def fX6_laysBooking (p1 : Int32) (p2 : Int32) (p3 : Int32) (p4 : Int32) (p5 : Int32) (p6 : Int32) (μ : Mem) : Option (Mem) := ((fX6_get (37 : Int32) μ).bind fun q1 => ((fX6_lay q1 (0 : Int32) p1 μ).bind fun q2 => ((fX6_lay q1 (1 : Int32) p2 q2).bind fun q3 => ((fX6_lay q1 (2 : Int32) p3 q3).bind fun q4 => ((fX6_lay q1 (3 : Int32) p4 q4).bind fun q5 => ((fX6_lay q1 (4 : Int32) p5 q5).bind fun q6 => ((fX6_lay q1 (5 : Int32) p6 q6).bind fun q7 => ((fX6_lay q1 (6 : Int32) (0 : Int32) q7).bind fun q8 => ((fX6_lay q1 (7 : Int32) (0 : Int32) q8).bind fun q9 => ((fX6_lay q1 (8 : Int32) (0 : Int32) q9).bind fun q10 => ((fX6_set (37 : Int32) (q1 + (1 : Int32)) q10).bind fun q11 => (some q11))))))))))))
set_option maxHeartbeats 4000000 in
set_option maxRecDepth 100000 in
theorem okX6_laysBooking (l : Launch) (cy : Nat → ClassId) (D : va_G) (B : Nat) (ek : EK) (p1 : Int32) (p2 : Int32) (p3 : Int32) (p4 : Int32) (p5 : Int32) (p6 : Int32) (σ μ ω : Mem) (res : Mem) (h : fX6_laysBooking p1 p2 p3 p4 p5 p6 μ = some res) : CT l cy D B ek yX6_laysBooking cX6_laysBooking 8 none ({ frames := 2, cells := 0, slots := 0, locals := 45 } : Room) [.ref (B + oMd), .int p1, .int p2, .int p3, .int p4, .int p5, .int p6] σ μ ω none σ res ω := by
  refine met_X (own := "HostelBedsModel") (by decide) rfl (Nat.le_of_ble_eq_true rfl) ?_
  intro p e s m args below meth c C hrT hlk
  have hret : ∀ (pc9 : Nat) (lcs9 : List (Nat × Value)), decode cX6_laysBooking pc9 = .ok (.return_, 1) → X p l e ({ frames := 2, cells := 0, slots := 0, locals := 45 } : Room) s m args below meth c 8 cy D B 0 0 (MQ below (QR cy D B none σ res ω) args s 0 0 (aB B)) pc9 lcs9 [] σ res ω := fun _ _ hd => x_vret C hrT hlk hd
  generalize (MQ below (QR cy D B none σ res ω) args s 0 0 (aB B)) = Q at hret ⊢
  obtain ⟨R, hR9⟩ : ∃ R : Room, R = ({ frames := 2, cells := 0, slots := 0, locals := 45 } : Room) := ⟨_, rfl⟩
  rw [← hR9] at hret ⊢
  unfold fX6_laysBooking at h
  show X p l e R s m args below meth c 8 cy D B 0 0 Q 0 [(0, .ref (B + oMd)), (1, .int p1), (2, .int p2), (3, .int p3), (4, .int p4), (5, .int p5), (6, .int p6)] [] σ μ ω
  refine x_aload_n C dX6_laysBooking_0 rfl 0 rfl ?_
  refine x_bipush C (v := 37) dX6_laysBooking_1 (by decide) ?_
  obtain ⟨q1, hk1, h⟩ := Option.bind_eq_some_iff.mp h
  refine x_callV C (As := [.int (37 : Int32)]) (rest := []) (lw_g_mk tw_1296 rfl) (lw_g_mk tsel_31 rfl) (c_Md) (C1 := "HostelBedsModel") (T := TX6) (N := 27) (ci := 6) rfl (okX6_get l cy D B ek (37 : Int32) σ μ ω _ hk1) rfl rfl (by rw [hR9]; decide) (lw_g_mk tw_1297 rfl) (lw_g_mk tw_7 rfl) (by decide) rfl (lw_g_mk tw_1294 rfl) rfl (Nat.le_of_ble_eq_true rfl) dX6_laysBooking_3 (by rw [hR9]; decide) ?_
  refine x_istore C [(7, .int q1), (0, .ref (B + oMd)), (1, .int p1), (2, .int p2), (3, .int p3), (4, .int p4), (5, .int p5), (6, .int p6)] dX6_laysBooking_6 (by decide) rfl ?_
  refine x_aload_n C dX6_laysBooking_8 rfl 1 rfl ?_
  refine x_iload C dX6_laysBooking_9 0 rfl ?_
  refine x_iconst C (v := 0) dX6_laysBooking_11 (by decide) ?_
  refine x_iload_n C dX6_laysBooking_12 rfl 2 rfl ?_
  obtain ⟨q2, hk2, h⟩ := Option.bind_eq_some_iff.mp h
  refine x_callV C (As := [.int q1, .int (0 : Int32), .int p1]) (rest := []) (lw_g_mk tw_1343 rfl) (lw_g_mk tsel_42 rfl) (c_Md) (C1 := "HostelBedsModel") (T := TX6) (N := 27) (ci := 6) rfl (okX6_lay l cy D B ek q1 (0 : Int32) p1 σ μ ω _ hk2) rfl rfl (by rw [hR9]; decide) (lw_g_mk tw_1344 rfl) (lw_g_mk tw_7 rfl) (by decide) rfl (lw_g_mk tw_1341 rfl) rfl (Nat.le_of_ble_eq_true rfl) dX6_laysBooking_13 (by rw [hR9]; decide) ?_
  refine x_aload_n C dX6_laysBooking_16 rfl 1 rfl ?_
  refine x_iload C dX6_laysBooking_17 0 rfl ?_
  refine x_iconst C (v := 1) dX6_laysBooking_19 (by decide) ?_
  refine x_iload_n C dX6_laysBooking_20 rfl 3 rfl ?_
  obtain ⟨q3, hk3, h⟩ := Option.bind_eq_some_iff.mp h
  refine x_callV C (As := [.int q1, .int (1 : Int32), .int p2]) (rest := []) (lw_g_mk tw_1343 rfl) (lw_g_mk tsel_42 rfl) (c_Md) (C1 := "HostelBedsModel") (T := TX6) (N := 27) (ci := 6) rfl (okX6_lay l cy D B ek q1 (1 : Int32) p2 σ q2 ω _ hk3) rfl rfl (by rw [hR9]; decide) (lw_g_mk tw_1344 rfl) (lw_g_mk tw_7 rfl) (by decide) rfl (lw_g_mk tw_1341 rfl) rfl (Nat.le_of_ble_eq_true rfl) dX6_laysBooking_21 (by rw [hR9]; decide) ?_
  refine x_aload_n C dX6_laysBooking_24 rfl 1 rfl ?_
  refine x_iload C dX6_laysBooking_25 0 rfl ?_
  refine x_iconst C (v := 2) dX6_laysBooking_27 (by decide) ?_
  refine x_iload_n C dX6_laysBooking_28 rfl 4 rfl ?_
  obtain ⟨q4, hk4, h⟩ := Option.bind_eq_some_iff.mp h
  refine x_callV C (As := [.int q1, .int (2 : Int32), .int p3]) (rest := []) (lw_g_mk tw_1343 rfl) (lw_g_mk tsel_42 rfl) (c_Md) (C1 := "HostelBedsModel") (T := TX6) (N := 27) (ci := 6) rfl (okX6_lay l cy D B ek q1 (2 : Int32) p3 σ q3 ω _ hk4) rfl rfl (by rw [hR9]; decide) (lw_g_mk tw_1344 rfl) (lw_g_mk tw_7 rfl) (by decide) rfl (lw_g_mk tw_1341 rfl) rfl (Nat.le_of_ble_eq_true rfl) dX6_laysBooking_29 (by rw [hR9]; decide) ?_
  refine x_aload_n C dX6_laysBooking_32 rfl 1 rfl ?_
  refine x_iload C dX6_laysBooking_33 0 rfl ?_
  refine x_iconst C (v := 3) dX6_laysBooking_35 (by decide) ?_
  refine x_iload C dX6_laysBooking_36 5 rfl ?_
  obtain ⟨q5, hk5, h⟩ := Option.bind_eq_some_iff.mp h
  refine x_callV C (As := [.int q1, .int (3 : Int32), .int p4]) (rest := []) (lw_g_mk tw_1343 rfl) (lw_g_mk tsel_42 rfl) (c_Md) (C1 := "HostelBedsModel") (T := TX6) (N := 27) (ci := 6) rfl (okX6_lay l cy D B ek q1 (3 : Int32) p4 σ q4 ω _ hk5) rfl rfl (by rw [hR9]; decide) (lw_g_mk tw_1344 rfl) (lw_g_mk tw_7 rfl) (by decide) rfl (lw_g_mk tw_1341 rfl) rfl (Nat.le_of_ble_eq_true rfl) dX6_laysBooking_38 (by rw [hR9]; decide) ?_
  refine x_aload_n C dX6_laysBooking_41 rfl 1 rfl ?_
  refine x_iload C dX6_laysBooking_42 0 rfl ?_
  refine x_iconst C (v := 4) dX6_laysBooking_44 (by decide) ?_
  refine x_iload C dX6_laysBooking_45 6 rfl ?_
  obtain ⟨q6, hk6, h⟩ := Option.bind_eq_some_iff.mp h
  refine x_callV C (As := [.int q1, .int (4 : Int32), .int p5]) (rest := []) (lw_g_mk tw_1343 rfl) (lw_g_mk tsel_42 rfl) (c_Md) (C1 := "HostelBedsModel") (T := TX6) (N := 27) (ci := 6) rfl (okX6_lay l cy D B ek q1 (4 : Int32) p5 σ q5 ω _ hk6) rfl rfl (by rw [hR9]; decide) (lw_g_mk tw_1344 rfl) (lw_g_mk tw_7 rfl) (by decide) rfl (lw_g_mk tw_1341 rfl) rfl (Nat.le_of_ble_eq_true rfl) dX6_laysBooking_47 (by rw [hR9]; decide) ?_
  refine x_aload_n C dX6_laysBooking_50 rfl 1 rfl ?_
  refine x_iload C dX6_laysBooking_51 0 rfl ?_
  refine x_iconst C (v := 5) dX6_laysBooking_53 (by decide) ?_
  refine x_iload C dX6_laysBooking_54 7 rfl ?_
  obtain ⟨q7, hk7, h⟩ := Option.bind_eq_some_iff.mp h
  refine x_callV C (As := [.int q1, .int (5 : Int32), .int p6]) (rest := []) (lw_g_mk tw_1343 rfl) (lw_g_mk tsel_42 rfl) (c_Md) (C1 := "HostelBedsModel") (T := TX6) (N := 27) (ci := 6) rfl (okX6_lay l cy D B ek q1 (5 : Int32) p6 σ q6 ω _ hk7) rfl rfl (by rw [hR9]; decide) (lw_g_mk tw_1344 rfl) (lw_g_mk tw_7 rfl) (by decide) rfl (lw_g_mk tw_1341 rfl) rfl (Nat.le_of_ble_eq_true rfl) dX6_laysBooking_56 (by rw [hR9]; decide) ?_
  refine x_aload_n C dX6_laysBooking_59 rfl 1 rfl ?_
  refine x_iload C dX6_laysBooking_60 0 rfl ?_
  refine x_bipush C (v := 6) dX6_laysBooking_62 (by decide) ?_
  refine x_iconst C (v := 0) dX6_laysBooking_64 (by decide) ?_
  obtain ⟨q8, hk8, h⟩ := Option.bind_eq_some_iff.mp h
  refine x_callV C (As := [.int q1, .int (6 : Int32), .int (0 : Int32)]) (rest := []) (lw_g_mk tw_1343 rfl) (lw_g_mk tsel_42 rfl) (c_Md) (C1 := "HostelBedsModel") (T := TX6) (N := 27) (ci := 6) rfl (okX6_lay l cy D B ek q1 (6 : Int32) (0 : Int32) σ q7 ω _ hk8) rfl rfl (by rw [hR9]; decide) (lw_g_mk tw_1344 rfl) (lw_g_mk tw_7 rfl) (by decide) rfl (lw_g_mk tw_1341 rfl) rfl (Nat.le_of_ble_eq_true rfl) dX6_laysBooking_65 (by rw [hR9]; decide) ?_
  refine x_aload_n C dX6_laysBooking_68 rfl 1 rfl ?_
  refine x_iload C dX6_laysBooking_69 0 rfl ?_
  refine x_bipush C (v := 7) dX6_laysBooking_71 (by decide) ?_
  refine x_iconst C (v := 0) dX6_laysBooking_73 (by decide) ?_
  obtain ⟨q9, hk9, h⟩ := Option.bind_eq_some_iff.mp h
  refine x_callV C (As := [.int q1, .int (7 : Int32), .int (0 : Int32)]) (rest := []) (lw_g_mk tw_1343 rfl) (lw_g_mk tsel_42 rfl) (c_Md) (C1 := "HostelBedsModel") (T := TX6) (N := 27) (ci := 6) rfl (okX6_lay l cy D B ek q1 (7 : Int32) (0 : Int32) σ q8 ω _ hk9) rfl rfl (by rw [hR9]; decide) (lw_g_mk tw_1344 rfl) (lw_g_mk tw_7 rfl) (by decide) rfl (lw_g_mk tw_1341 rfl) rfl (Nat.le_of_ble_eq_true rfl) dX6_laysBooking_74 (by rw [hR9]; decide) ?_
  refine x_aload_n C dX6_laysBooking_77 rfl 1 rfl ?_
  refine x_iload C dX6_laysBooking_78 0 rfl ?_
  refine x_bipush C (v := 8) dX6_laysBooking_80 (by decide) ?_
  refine x_iconst C (v := 0) dX6_laysBooking_82 (by decide) ?_
  obtain ⟨q10, hk10, h⟩ := Option.bind_eq_some_iff.mp h
  refine x_callV C (As := [.int q1, .int (8 : Int32), .int (0 : Int32)]) (rest := []) (lw_g_mk tw_1343 rfl) (lw_g_mk tsel_42 rfl) (c_Md) (C1 := "HostelBedsModel") (T := TX6) (N := 27) (ci := 6) rfl (okX6_lay l cy D B ek q1 (8 : Int32) (0 : Int32) σ q9 ω _ hk10) rfl rfl (by rw [hR9]; decide) (lw_g_mk tw_1344 rfl) (lw_g_mk tw_7 rfl) (by decide) rfl (lw_g_mk tw_1341 rfl) rfl (Nat.le_of_ble_eq_true rfl) dX6_laysBooking_83 (by rw [hR9]; decide) ?_
  refine x_aload_n C dX6_laysBooking_86 rfl 1 rfl ?_
  refine x_bipush C (v := 37) dX6_laysBooking_87 (by decide) ?_
  refine x_iload C dX6_laysBooking_89 0 rfl ?_
  refine x_iconst C (v := 1) dX6_laysBooking_91 (by decide) ?_
  refine x_iadd C dX6_laysBooking_92 ?_
  obtain ⟨q11, hk11, h⟩ := Option.bind_eq_some_iff.mp h
  refine x_callV C (As := [.int (37 : Int32), .int (q1 + (1 : Int32))]) (rest := []) (lw_g_mk tw_1323 rfl) (lw_g_mk tsel_37 rfl) (c_Md) (C1 := "HostelBedsModel") (T := TX6) (N := 27) (ci := 6) rfl (okX6_set l cy D B ek (37 : Int32) (q1 + (1 : Int32)) σ q10 ω _ hk11) rfl rfl (by rw [hR9]; decide) (lw_g_mk tw_1324 rfl) (lw_g_mk tw_7 rfl) (by decide) rfl (lw_g_mk tw_1321 rfl) rfl (Nat.le_of_ble_eq_true rfl) dX6_laysBooking_93 (by rw [hR9]; decide) ?_
  cases h
  exact hret _ _ dX6_laysBooking_96
def jX6_placeOf_RB_30 (a3 : Int32) : Option ((Int32) ⊕ ((Unit) ⊕ (Int32))) := (some (.inl (a3 + (1 : Int32))))
def stX6_placeOf_RB_3 (p3 : Int32) (μ : Mem) (p1 : Int64) (a3 : Int32) : Option ((Int32) ⊕ ((Unit) ⊕ (Int32))) := (if p3 ≤ a3 then (some (.inr (.inl ()))) else (gd (inb a3 17) (if (lg_cmp (rJ μ 14 0 a3.toNatClampNeg) (0 : Int64)) = 0 then (jX6_placeOf_RB_30 a3) else (if ¬ (lg_cmp (rJ μ 14 0 a3.toNatClampNeg) p1) = 0 then (jX6_placeOf_RB_30 a3) else (some (.inr (.inr a3)))))))
def fX6_placeOf_RB (p1 : Int64) (p3 : Int32) (μ : Mem) : Option (Int32) := ((loop (stX6_placeOf_RB_3 p3 μ p1) 5000 ((0 : Int32))).bind fun b3 => Sum.elim (fun z3 => (some ((-1 : Int32)))) (fun w3 => (some w3)) b3)
set_option maxHeartbeats 4000000 in
set_option maxRecDepth 100000 in
theorem okX6_placeOf_RB (l : Launch) (cy : Nat → ClassId) (D : va_G) (B : Nat) (ek : EK) (p1 : Int64) (p3 : Int32) (σ μ ω : Mem) (res : Int32) (h : fX6_placeOf_RB p1 p3 μ = some res) : CT l cy D B ek yX6_placeOf cX6_placeOf 5 (some .int) ({ frames := 0, cells := 0, slots := 0, locals := 0 } : Room) [.long p1, .ref (B + oRB), .int p3] σ μ ω (some (.int res)) σ μ ω := by
  refine met_X (own := "HostelBedsModel") (by decide) rfl (Nat.le_of_ble_eq_true rfl) ?_
  intro p e s m args below meth c C hrT hlk
  have hret : ∀ (pc9 : Nat) (lcs9 : List (Nat × Value)), decode cX6_placeOf pc9 = .ok (.ireturn, 1) → narrow .int (.int res) = .int res → X p l e ({ frames := 0, cells := 0, slots := 0, locals := 0 } : Room) s m args below meth c 5 cy D B 0 0 (MQ below (QR cy D B (some (.int res)) σ μ ω) args s 0 0 (aB B)) pc9 lcs9 [.int res] σ μ ω := fun _ _ hd hn => x_zret C hrT hlk hn hd
  generalize (MQ below (QR cy D B (some (.int res)) σ μ ω) args s 0 0 (aB B)) = Q at hret ⊢
  obtain ⟨R, hR9⟩ : ∃ R : Room, R = ({ frames := 0, cells := 0, slots := 0, locals := 0 } : Room) := ⟨_, rfl⟩
  rw [← hR9] at hret ⊢
  unfold fX6_placeOf_RB at h
  show X p l e R s m args below meth c 5 cy D B 0 0 Q 0 [(0, .long p1), (2, .ref (B + oRB)), (3, .int p3)] [] σ μ ω
  refine x_iconst C (v := 0) dX6_placeOf_0 (by decide) ?_
  refine x_istore C [(4, .int (0 : Int32)), (0, .long p1), (2, .ref (B + oRB)), (3, .int p3)] dX6_placeOf_1 (by decide) rfl ?_
  obtain ⟨b3, hk8, h⟩ := Option.bind_eq_some_iff.mp h
  refine x_sub [1, 2, 3, 0] rfl ?_
  refine loop_run (step := stX6_placeOf_RB_3 p3 μ p1) (P := fun (a3 : Int32) => X p l e R s m args below meth c 5 cy D B 0 0 Q 3 [(0, .long p1), (2, .ref (B + oRB)), (3, .int p3), (4, .int a3)] [] σ μ ω) (K := fun (b3 : (Unit) ⊕ (Int32)) => Sum.elim (fun z3 => X p l e R s m args below meth c 5 cy D B 0 0 Q 36 [] [] σ μ ω) (fun w3 => ∀ (pc9 : Nat) (lcs9 : List (Nat × Value)), decode cX6_placeOf pc9 = .ok (.ireturn, 1) → narrow .int (.int w3) = .int w3 → X p l e R s m args below meth c 5 cy D B 0 0 Q pc9 lcs9 [.int w3] σ μ ω) b3) ?_ 5000 ((0 : Int32)) b3 hk8 ?_
  · intro a3 r h hA1 hB2
    unfold stX6_placeOf_RB_3 at h
    refine x_iload C dX6_placeOf_3 3 rfl ?_
    refine x_iload_n C dX6_placeOf_5 rfl 2 rfl ?_
    refine x_icmp_ge C (tgt := 36) dX6_placeOf_6 (by decide) (fun hc3 => ?_) (fun hc3 => ?_)
    · rw [if_pos hc3] at h
      cases h
      refine x_sub [] rfl ?_
      exact hB2 (.inl ()) rfl
    · rw [if_neg hc3] at h
      refine x_aload_n C dX6_placeOf_9 rfl 1 rfl ?_
      refine x_iload C dX6_placeOf_10 3 rfl ?_
      obtain ⟨hg4, h⟩ := gd_some h
      refine x_lald C _ (c_RB) hg4 dX6_placeOf_12 ?_
      refine x_lconst C (v := 0) dX6_placeOf_13 (by decide) ?_
      refine x_lcmp C dX6_placeOf_14 ?_
      have hJ5 : ∀ (r9 : (Int32) ⊕ ((Unit) ⊕ (Int32))), jX6_placeOf_RB_30 a3 = some r9 → (∀ a2, r9 = .inl a2 → (fun (a3 : Int32) => X p l e R s m args below meth c 5 cy D B 0 0 Q 3 [(0, .long p1), (2, .ref (B + oRB)), (3, .int p3), (4, .int a3)] [] σ μ ω) a2) → (∀ b2, r9 = .inr b2 → (fun (b3 : (Unit) ⊕ (Int32)) => Sum.elim (fun z3 => X p l e R s m args below meth c 5 cy D B 0 0 Q 36 [] [] σ μ ω) (fun w3 => ∀ (pc9 : Nat) (lcs9 : List (Nat × Value)), decode cX6_placeOf pc9 = .ok (.ireturn, 1) → narrow .int (.int w3) = .int w3 → X p l e R s m args below meth c 5 cy D B 0 0 Q pc9 lcs9 [.int w3] σ μ ω) b3) b2) → X p l e R s m args below meth c 5 cy D B 0 0 Q 30 [(0, .long p1), (2, .ref (B + oRB)), (3, .int p3), (4, .int a3)] [] σ μ ω := by
        intro r h hA1 hB2
        unfold jX6_placeOf_RB_30 at h
        refine x_iinc C (k := 3) [(4, .int (a3 + (1 : Int32))), (0, .long p1), (2, .ref (B + oRB)), (3, .int p3)] dX6_placeOf_30 rfl rfl (by decide) rfl ?_
        refine x_goto C (tgt := 3) dX6_placeOf_33 (by decide) ?_
        cases h
        refine x_sub [1, 2, 3, 0] rfl ?_
        exact hA1 (a3 + (1 : Int32)) rfl
      refine x_if_eq C (tgt := 30) dX6_placeOf_15 (by decide) (fun hc6 => ?_) (fun hc6 => ?_)
      · rw [if_pos hc6] at h
        exact hJ5 _ h hA1 hB2
      · rw [if_neg hc6] at h
        refine x_aload_n C dX6_placeOf_18 rfl 1 rfl ?_
        refine x_iload C dX6_placeOf_19 3 rfl ?_
        refine x_lald C _ (c_RB) hg4 dX6_placeOf_21 ?_
        refine x_lload_n C dX6_placeOf_22 rfl 0 rfl ?_
        refine x_lcmp C dX6_placeOf_23 ?_
        refine x_if_ne C (tgt := 30) dX6_placeOf_24 (by decide) (fun hc7 => ?_) (fun hc7 => ?_)
        · rw [if_pos hc7] at h
          exact hJ5 _ h hA1 hB2
        · rw [if_neg hc7] at h
          refine x_iload C dX6_placeOf_27 3 rfl ?_
          cases h
          exact hB2 (.inr a3) rfl _ _ dX6_placeOf_29 rfl
  · rcases b3 with z3 | w3
    · rw [Sum.elim_inl] at h
      show X p l e R s m args below meth c 5 cy D B 0 0 Q 36 [] [] σ μ ω
      refine x_iconst C (v := -1) dX6_placeOf_36 (by decide) ?_
      cases h
      exact hret _ _ dX6_placeOf_37 rfl
    · rw [Sum.elim_inr] at h
      show ∀ (pc9 : Nat) (lcs9 : List (Nat × Value)), decode cX6_placeOf pc9 = .ok (.ireturn, 1) → narrow .int (.int w3) = .int w3 → X p l e R s m args below meth c 5 cy D B 0 0 Q pc9 lcs9 [.int w3] σ μ ω
      cases h
      exact hret
def jX6_readBook_231 (q1 : Int32) (q20 : Mem) (q6 : Mem) (t21 : Int32) : Option (Mem) := ((fX6_lay q1 (6 : Int32) t21 q20).bind fun q22 => (gd (inb q1 17) ((fX6_comes q1 (wJ q22 14 0 q1.toNatClampNeg (rJ q6 10 0 0))).bind fun q23 => (some q23))))
def jX6_readBook_189 (q8 : Int32 × Mem) (q9 : Int32 × Mem) (q10 : Int32 × Mem) (q12 : Int32 × Mem) (q13 : Int32 × Mem) (q14 : Int32 × Mem) (t16 : Int32) (q1 : Int32) (q6 : Mem) (μ17 : Mem) : Option (Mem) := ((fX6_ends μ17).bind fun q18 => ((fX6_isWell q18).bind fun q19 => (if ¬ q19 = 0 then ((fX6_laysBooking q8.1 q9.1 q10.1 q12.1 q13.1 q14.1 q18).bind fun q20 => (if t16 = 0 then (jX6_readBook_231 q1 q20 q6 (0 : Int32)) else (jX6_readBook_231 q1 q20 q6 (1 : Int32)))) else (some q18))))
def jX6_readBook_178 (q8 : Int32 × Mem) (q9 : Int32 × Mem) (q10 : Int32 × Mem) (q12 : Int32 × Mem) (q13 : Int32 × Mem) (q14 : Int32 × Mem) (q1 : Int32) (q6 : Mem) (t16 : Int32) : Option (Mem) := (if t16 = 0 then (jX6_readBook_189 q8 q9 q10 q12 q13 q14 t16 q1 q6 q14.2) else ((fX6_goesOn q14.2).bind fun q24 => (jX6_readBook_189 q8 q9 q10 q12 q13 q14 t16 q1 q6 q24)))
def jX6_readBook_177 (q8 : Int32 × Mem) (q9 : Int32 × Mem) (q10 : Int32 × Mem) (q12 : Int32 × Mem) (q13 : Int32 × Mem) (q14 : Int32 × Mem) (q1 : Int32) (q6 : Mem) : Option (Mem) := (jX6_readBook_178 q8 q9 q10 q12 q13 q14 q1 q6 (0 : Int32))
def jX6_readBook_109 (q10 : Int32 × Mem) (q8 : Int32 × Mem) (q9 : Int32 × Mem) (q1 : Int32) (q6 : Mem) (t11 : Int32) : Option (Mem) := ((fX6_readValue t11 ((12 : Int32) - q10.1) q10.2).bind fun q12 => ((fX6_readValue (0 : Int32) (99 : Int32) q12.2).bind fun q13 => ((fX6_readValue (0 : Int32) (100 : Int32) q13.2).bind fun q14 => ((fX6_isWell q14.2).bind fun q15 => (if q15 = 0 then (jX6_readBook_177 q8 q9 q10 q12 q13 q14 q1 q6) else ((fX6_spelled (116 : Int32) (111 : Int32) (103 : Int32) (101 : Int32) (116 : Int32) (104 : Int32) (101 : Int32)).bind fun q25 => ((fX6_more q25 (114 : Int32)).bind fun q26 => ((fX6_isWord q26 q14.2).bind fun q27 => (if q27 = 0 then (jX6_readBook_177 q8 q9 q10 q12 q13 q14 q1 q6) else (jX6_readBook_178 q8 q9 q10 q12 q13 q14 q1 q6 (1 : Int32)))))))))))
def jX6_readBook_56 (q4 : Mem) (q1 : Int32) (t5 : Int32) : Option (Mem) := ((fX6_must t5 q4).bind fun q6 => ((fX6_goesOn q6).bind fun q7 => ((fX6_readValue (0 : Int32) (29 : Int32) q7).bind fun q8 => ((fX6_readValue (1 : Int32) ((30 : Int32) - q8.1) q8.2).bind fun q9 => ((fX6_readValue (0 : Int32) (12 : Int32) q9.2).bind fun q10 => (if ¬ q10.1 = 0 then (jX6_readBook_109 q10 q8 q9 q1 q6 (0 : Int32)) else (jX6_readBook_109 q10 q8 q9 q1 q6 (1 : Int32))))))))
def jX6_readBook_55 (q4 : Mem) (q1 : Int32) : Option (Mem) := (jX6_readBook_56 q4 q1 (0 : Int32))
def jX6_readBook_19 (μ : Mem) (q1 : Int32) (t2 : Int32) : Option (Mem) := ((fX6_must t2 μ).bind fun q3 => ((fX6_goesOn q3).bind fun q4 => (if ¬ (rI q4 73 0 0) = (1 : Int32) then (jX6_readBook_55 q4 q1) else ((fX6_placeOf_RB (rJ q4 10 0 0) q1 q4).bind fun q28 => (if ¬ q28 = (-1 : Int32) then (jX6_readBook_55 q4 q1) else (jX6_readBook_56 q4 q1 (1 : Int32)))))))
def fX6_readBook (μ : Mem) : Option (Mem) := ((fX6_get (37 : Int32) μ).bind fun q1 => (if (16 : Int32) ≤ q1 then (jX6_readBook_19 μ q1 (0 : Int32)) else (jX6_readBook_19 μ q1 (1 : Int32))))
set_option maxHeartbeats 4000000 in
set_option maxRecDepth 100000 in
theorem okX6_readBook (l : Launch) (cy : Nat → ClassId) (D : va_G) (B : Nat) (ek : EK) (σ μ ω : Mem) (res : Mem) (h : fX6_readBook μ = some res) : CT l cy D B ek yX6_readBook cX6_readBook 11 none ({ frames := 6, cells := 0, slots := 0, locals := 132 } : Room) [.ref (B + oMd)] σ μ ω none σ res ω := by
  refine met_X (own := "HostelBedsModel") (by decide) rfl (Nat.le_of_ble_eq_true rfl) ?_
  intro p e s m args below meth c C hrT hlk
  have hret : ∀ (pc9 : Nat) (lcs9 : List (Nat × Value)), decode cX6_readBook pc9 = .ok (.return_, 1) → X p l e ({ frames := 6, cells := 0, slots := 0, locals := 132 } : Room) s m args below meth c 11 cy D B 0 0 (MQ below (QR cy D B none σ res ω) args s 0 0 (aB B)) pc9 lcs9 [] σ res ω := fun _ _ hd => x_vret C hrT hlk hd
  generalize (MQ below (QR cy D B none σ res ω) args s 0 0 (aB B)) = Q at hret ⊢
  obtain ⟨R, hR9⟩ : ∃ R : Room, R = ({ frames := 6, cells := 0, slots := 0, locals := 132 } : Room) := ⟨_, rfl⟩
  rw [← hR9] at hret ⊢
  unfold fX6_readBook at h
  show X p l e R s m args below meth c 11 cy D B 0 0 Q 0 [(0, .ref (B + oMd))] [] σ μ ω
  refine x_aload_n C dX6_readBook_0 rfl 0 rfl ?_
  refine x_bipush C (v := 37) dX6_readBook_1 (by decide) ?_
  obtain ⟨q1, hk1, h⟩ := Option.bind_eq_some_iff.mp h
  refine x_callV C (As := [.int (37 : Int32)]) (rest := []) (lw_g_mk tw_1296 rfl) (lw_g_mk tsel_31 rfl) (c_Md) (C1 := "HostelBedsModel") (T := TX6) (N := 27) (ci := 6) rfl (okX6_get l cy D B ek (37 : Int32) σ μ ω _ hk1) rfl rfl (by rw [hR9]; decide) (lw_g_mk tw_1297 rfl) (lw_g_mk tw_7 rfl) (by decide) rfl (lw_g_mk tw_1294 rfl) rfl (Nat.le_of_ble_eq_true rfl) dX6_readBook_3 (by rw [hR9]; decide) ?_
  refine x_istore_n C [(1, .int q1), (0, .ref (B + oMd))] dX6_readBook_6 rfl (by decide) rfl ?_
  refine x_aload_n C dX6_readBook_7 rfl 1 rfl ?_
  refine x_iload_n C dX6_readBook_8 rfl 0 rfl ?_
  refine x_bipush C (v := 16) dX6_readBook_9 (by decide) ?_
  have hJ39 : ∀ (t2 : Int32) (r9 : Mem), jX6_readBook_19 μ q1 t2 = some r9 → (∀ (pc9 : Nat) (lcs9 : List (Nat × Value)), decode cX6_readBook pc9 = .ok (.return_, 1) → X p l e R s m args below meth c 11 cy D B 0 0 Q pc9 lcs9 [] σ r9 ω) → X p l e R s m args below meth c 11 cy D B 0 0 Q 19 [(0, .ref (B + oMd)), (1, .int q1)] [.int t2, .ref (B + oMd)] σ μ ω := by
    intro t2 res9 h hret
    unfold jX6_readBook_19 at h
    obtain ⟨q3, hk2, h⟩ := Option.bind_eq_some_iff.mp h
    refine x_callV C (As := [.int t2]) (rest := []) (lw_g_mk tw_1300 rfl) (lw_g_mk tsel_32 rfl) (c_Md) (C1 := "HostelBedsModel") (T := TX6) (N := 27) (ci := 6) rfl (okX6_must l cy D B ek t2 σ μ ω _ hk2) rfl rfl (by rw [hR9]; decide) (lw_g_mk tw_1301 rfl) (lw_g_mk tw_7 rfl) (by decide) rfl (lw_g_mk tw_1298 rfl) rfl (Nat.le_of_ble_eq_true rfl) dX6_readBook_19 (by rw [hR9]; decide) ?_
    refine x_aload_n C dX6_readBook_22 rfl 0 rfl ?_
    obtain ⟨q4, hk3, h⟩ := Option.bind_eq_some_iff.mp h
    refine x_callV C (As := []) (rest := []) (lw_g_mk tw_1304 rfl) (lw_g_mk tsel_33 rfl) (c_Md) (C1 := "HostelBedsModel") (T := TX6) (N := 27) (ci := 6) rfl (okX6_goesOn l cy D B ek σ q3 ω _ hk3) rfl rfl (by rw [hR9]; decide) (lw_g_mk tw_1305 rfl) (lw_g_mk tw_7 rfl) (by decide) rfl (lw_g_mk tw_1302 rfl) rfl (Nat.le_of_ble_eq_true rfl) dX6_readBook_23 (by rw [hR9]; decide) ?_
    refine x_aload_n C dX6_readBook_26 rfl 0 rfl ?_
    refine x_aload_n C dX6_readBook_27 rfl 0 rfl ?_
    refine x_get C (C1 := "HostelBedsModel") (T := TX6) (N := 27) (ci := 6) inXg6 _ (c_Md) rfl 17 (by decide) (lw_g_mk tw_1148 rfl) rfl dX6_readBook_28 ?_
    refine x_iconst C (v := 1) dX6_readBook_31 (by decide) ?_
    have hJ34 : ∀ (t5 : Int32) (r9 : Mem), jX6_readBook_56 q4 q1 t5 = some r9 → (∀ (pc9 : Nat) (lcs9 : List (Nat × Value)), decode cX6_readBook pc9 = .ok (.return_, 1) → X p l e R s m args below meth c 11 cy D B 0 0 Q pc9 lcs9 [] σ r9 ω) → X p l e R s m args below meth c 11 cy D B 0 0 Q 56 [(0, .ref (B + oMd)), (1, .int q1)] [.int t5, .ref (B + oMd)] σ q4 ω := by
      intro t5 res9 h hret
      unfold jX6_readBook_56 at h
      obtain ⟨q6, hk4, h⟩ := Option.bind_eq_some_iff.mp h
      refine x_callV C (As := [.int t5]) (rest := []) (lw_g_mk tw_1300 rfl) (lw_g_mk tsel_32 rfl) (c_Md) (C1 := "HostelBedsModel") (T := TX6) (N := 27) (ci := 6) rfl (okX6_must l cy D B ek t5 σ q4 ω _ hk4) rfl rfl (by rw [hR9]; decide) (lw_g_mk tw_1301 rfl) (lw_g_mk tw_7 rfl) (by decide) rfl (lw_g_mk tw_1298 rfl) rfl (Nat.le_of_ble_eq_true rfl) dX6_readBook_56 (by rw [hR9]; decide) ?_
      refine x_aload_n C dX6_readBook_59 rfl 0 rfl ?_
      refine x_get C (C1 := "HostelBedsModel") (T := TX6) (N := 27) (ci := 6) inXg6 _ (c_Md) rfl 19 (by decide) (lw_g_mk tw_1150 rfl) rfl dX6_readBook_60 ?_
      refine x_lstore_n C [(2, .long (rJ q6 10 0 0)), (0, .ref (B + oMd)), (1, .int q1)] dX6_readBook_63 rfl (by decide) rfl ?_
      refine x_aload_n C dX6_readBook_64 rfl 1 rfl ?_
      obtain ⟨q7, hk5, h⟩ := Option.bind_eq_some_iff.mp h
      refine x_callV C (As := []) (rest := []) (lw_g_mk tw_1304 rfl) (lw_g_mk tsel_33 rfl) (c_Md) (C1 := "HostelBedsModel") (T := TX6) (N := 27) (ci := 6) rfl (okX6_goesOn l cy D B ek σ q6 ω _ hk5) rfl rfl (by rw [hR9]; decide) (lw_g_mk tw_1305 rfl) (lw_g_mk tw_7 rfl) (by decide) rfl (lw_g_mk tw_1302 rfl) rfl (Nat.le_of_ble_eq_true rfl) dX6_readBook_65 (by rw [hR9]; decide) ?_
      refine x_aload_n C dX6_readBook_68 rfl 1 rfl ?_
      refine x_iconst C (v := 0) dX6_readBook_69 (by decide) ?_
      refine x_bipush C (v := 29) dX6_readBook_70 (by decide) ?_
      obtain ⟨q8, hk6, h⟩ := Option.bind_eq_some_iff.mp h
      refine x_callV C (As := [.int (0 : Int32), .int (29 : Int32)]) (rest := []) (lw_g_mk tw_1315 rfl) (lw_g_mk tsel_35 rfl) (c_Md) (C1 := "HostelBedsModel") (T := TX6) (N := 27) (ci := 6) rfl (okX6_readValue l cy D B ek (0 : Int32) (29 : Int32) σ q7 ω _ hk6) rfl rfl (by rw [hR9]; decide) (lw_g_mk tw_1316 rfl) (lw_g_mk tw_7 rfl) (by decide) rfl (lw_g_mk tw_1313 rfl) rfl (Nat.le_of_ble_eq_true rfl) dX6_readBook_72 (by rw [hR9]; decide) ?_
      refine x_istore C [(4, .int q8.1), (2, .long (rJ q6 10 0 0)), (0, .ref (B + oMd)), (1, .int q1)] dX6_readBook_75 (by decide) rfl ?_
      refine x_aload_n C dX6_readBook_77 rfl 2 rfl ?_
      refine x_iconst C (v := 1) dX6_readBook_78 (by decide) ?_
      refine x_bipush C (v := 30) dX6_readBook_79 (by decide) ?_
      refine x_iload C dX6_readBook_81 0 rfl ?_
      refine x_isub C dX6_readBook_83 ?_
      obtain ⟨q9, hk7, h⟩ := Option.bind_eq_some_iff.mp h
      refine x_callV C (As := [.int (1 : Int32), .int ((30 : Int32) - q8.1)]) (rest := []) (lw_g_mk tw_1315 rfl) (lw_g_mk tsel_35 rfl) (c_Md) (C1 := "HostelBedsModel") (T := TX6) (N := 27) (ci := 6) rfl (okX6_readValue l cy D B ek (1 : Int32) ((30 : Int32) - q8.1) σ q8.2 ω _ hk7) rfl rfl (by rw [hR9]; decide) (lw_g_mk tw_1316 rfl) (lw_g_mk tw_7 rfl) (by decide) rfl (lw_g_mk tw_1313 rfl) rfl (Nat.le_of_ble_eq_true rfl) dX6_readBook_84 (by rw [hR9]; decide) ?_
      refine x_istore C [(5, .int q9.1), (4, .int q8.1), (2, .long (rJ q6 10 0 0)), (0, .ref (B + oMd)), (1, .int q1)] dX6_readBook_87 (by decide) rfl ?_
      refine x_aload_n C dX6_readBook_89 rfl 3 rfl ?_
      refine x_iconst C (v := 0) dX6_readBook_90 (by decide) ?_
      refine x_bipush C (v := 12) dX6_readBook_91 (by decide) ?_
      obtain ⟨q10, hk8, h⟩ := Option.bind_eq_some_iff.mp h
      refine x_callV C (As := [.int (0 : Int32), .int (12 : Int32)]) (rest := []) (lw_g_mk tw_1315 rfl) (lw_g_mk tsel_35 rfl) (c_Md) (C1 := "HostelBedsModel") (T := TX6) (N := 27) (ci := 6) rfl (okX6_readValue l cy D B ek (0 : Int32) (12 : Int32) σ q9.2 ω _ hk8) rfl rfl (by rw [hR9]; decide) (lw_g_mk tw_1316 rfl) (lw_g_mk tw_7 rfl) (by decide) rfl (lw_g_mk tw_1313 rfl) rfl (Nat.le_of_ble_eq_true rfl) dX6_readBook_93 (by rw [hR9]; decide) ?_
      refine x_istore C [(6, .int q10.1), (5, .int q9.1), (4, .int q8.1), (2, .long (rJ q6 10 0 0)), (0, .ref (B + oMd)), (1, .int q1)] dX6_readBook_96 (by decide) rfl ?_
      refine x_aload_n C dX6_readBook_98 rfl 4 rfl ?_
      refine x_iload C dX6_readBook_99 0 rfl ?_
      have hJ32 : ∀ (t11 : Int32) (r9 : Mem), jX6_readBook_109 q10 q8 q9 q1 q6 t11 = some r9 → (∀ (pc9 : Nat) (lcs9 : List (Nat × Value)), decode cX6_readBook pc9 = .ok (.return_, 1) → X p l e R s m args below meth c 11 cy D B 0 0 Q pc9 lcs9 [] σ r9 ω) → X p l e R s m args below meth c 11 cy D B 0 0 Q 109 [(0, .ref (B + oMd)), (1, .int q1), (2, .long (rJ q6 10 0 0)), (4, .int q8.1), (5, .int q9.1), (6, .int q10.1)] [.int t11, .ref (B + oMd)] σ q10.2 ω := by
        intro t11 res9 h hret
        unfold jX6_readBook_109 at h
        refine x_bipush C (v := 12) dX6_readBook_109 (by decide) ?_
        refine x_iload C dX6_readBook_111 5 rfl ?_
        refine x_isub C dX6_readBook_113 ?_
        obtain ⟨q12, hk9, h⟩ := Option.bind_eq_some_iff.mp h
        refine x_callV C (As := [.int t11, .int ((12 : Int32) - q10.1)]) (rest := []) (lw_g_mk tw_1315 rfl) (lw_g_mk tsel_35 rfl) (c_Md) (C1 := "HostelBedsModel") (T := TX6) (N := 27) (ci := 6) rfl (okX6_readValue l cy D B ek t11 ((12 : Int32) - q10.1) σ q10.2 ω _ hk9) rfl rfl (by rw [hR9]; decide) (lw_g_mk tw_1316 rfl) (lw_g_mk tw_7 rfl) (by decide) rfl (lw_g_mk tw_1313 rfl) rfl (Nat.le_of_ble_eq_true rfl) dX6_readBook_114 (by rw [hR9]; decide) ?_
        refine x_istore C [(7, .int q12.1), (0, .ref (B + oMd)), (1, .int q1), (2, .long (rJ q6 10 0 0)), (4, .int q8.1), (5, .int q9.1), (6, .int q10.1)] dX6_readBook_117 (by decide) rfl ?_
        refine x_aload_n C dX6_readBook_119 rfl 1 rfl ?_
        refine x_iconst C (v := 0) dX6_readBook_120 (by decide) ?_
        refine x_bipush C (v := 99) dX6_readBook_121 (by decide) ?_
        obtain ⟨q13, hk10, h⟩ := Option.bind_eq_some_iff.mp h
        refine x_callV C (As := [.int (0 : Int32), .int (99 : Int32)]) (rest := []) (lw_g_mk tw_1315 rfl) (lw_g_mk tsel_35 rfl) (c_Md) (C1 := "HostelBedsModel") (T := TX6) (N := 27) (ci := 6) rfl (okX6_readValue l cy D B ek (0 : Int32) (99 : Int32) σ q12.2 ω _ hk10) rfl rfl (by rw [hR9]; decide) (lw_g_mk tw_1316 rfl) (lw_g_mk tw_7 rfl) (by decide) rfl (lw_g_mk tw_1313 rfl) rfl (Nat.le_of_ble_eq_true rfl) dX6_readBook_123 (by rw [hR9]; decide) ?_
        refine x_istore C [(8, .int q13.1), (7, .int q12.1), (0, .ref (B + oMd)), (1, .int q1), (2, .long (rJ q6 10 0 0)), (4, .int q8.1), (5, .int q9.1), (6, .int q10.1)] dX6_readBook_126 (by decide) rfl ?_
        refine x_aload_n C dX6_readBook_128 rfl 2 rfl ?_
        refine x_iconst C (v := 0) dX6_readBook_129 (by decide) ?_
        refine x_bipush C (v := 100) dX6_readBook_130 (by decide) ?_
        obtain ⟨q14, hk11, h⟩ := Option.bind_eq_some_iff.mp h
        refine x_callV C (As := [.int (0 : Int32), .int (100 : Int32)]) (rest := []) (lw_g_mk tw_1315 rfl) (lw_g_mk tsel_35 rfl) (c_Md) (C1 := "HostelBedsModel") (T := TX6) (N := 27) (ci := 6) rfl (okX6_readValue l cy D B ek (0 : Int32) (100 : Int32) σ q13.2 ω _ hk11) rfl rfl (by rw [hR9]; decide) (lw_g_mk tw_1316 rfl) (lw_g_mk tw_7 rfl) (by decide) rfl (lw_g_mk tw_1313 rfl) rfl (Nat.le_of_ble_eq_true rfl) dX6_readBook_132 (by rw [hR9]; decide) ?_
        refine x_istore C [(9, .int q14.1), (8, .int q13.1), (7, .int q12.1), (0, .ref (B + oMd)), (1, .int q1), (2, .long (rJ q6 10 0 0)), (4, .int q8.1), (5, .int q9.1), (6, .int q10.1)] dX6_readBook_135 (by decide) rfl ?_
        refine x_aload_n C dX6_readBook_137 rfl 3 rfl ?_
        obtain ⟨q15, hk12, h⟩ := Option.bind_eq_some_iff.mp h
        refine x_callV C (As := []) (rest := []) (lw_g_mk tw_1273 rfl) (lw_g_mk tsel_27 rfl) (c_Md) (C1 := "HostelBedsModel") (T := TX6) (N := 27) (ci := 6) rfl (okX6_isWell l cy D B ek σ q14.2 ω _ hk12) rfl rfl (by rw [hR9]; decide) (lw_g_mk tw_1274 rfl) (lw_g_mk tw_7 rfl) (by decide) rfl (lw_g_mk tw_1271 rfl) rfl (Nat.le_of_ble_eq_true rfl) dX6_readBook_138 (by rw [hR9]; decide) ?_
        have hJ25 : ∀ (t16 : Int32) (r9 : Mem), jX6_readBook_178 q8 q9 q10 q12 q13 q14 q1 q6 t16 = some r9 → (∀ (pc9 : Nat) (lcs9 : List (Nat × Value)), decode cX6_readBook pc9 = .ok (.return_, 1) → X p l e R s m args below meth c 11 cy D B 0 0 Q pc9 lcs9 [] σ r9 ω) → X p l e R s m args below meth c 11 cy D B 0 0 Q 178 [(0, .ref (B + oMd)), (1, .int q1), (2, .long (rJ q6 10 0 0)), (4, .int q8.1), (5, .int q9.1), (6, .int q10.1), (7, .int q12.1), (8, .int q13.1), (9, .int q14.1)] [.int t16] σ q14.2 ω := by
          intro t16 res9 h hret
          unfold jX6_readBook_178 at h
          refine x_istore C [(10, .int t16), (0, .ref (B + oMd)), (1, .int q1), (2, .long (rJ q6 10 0 0)), (4, .int q8.1), (5, .int q9.1), (6, .int q10.1), (7, .int q12.1), (8, .int q13.1), (9, .int q14.1)] dX6_readBook_178 (by decide) rfl ?_
          refine x_iload C dX6_readBook_180 0 rfl ?_
          have hJ22 : ∀ (μ17 : Mem) (r9 : Mem), jX6_readBook_189 q8 q9 q10 q12 q13 q14 t16 q1 q6 μ17 = some r9 → (∀ (pc9 : Nat) (lcs9 : List (Nat × Value)), decode cX6_readBook pc9 = .ok (.return_, 1) → X p l e R s m args below meth c 11 cy D B 0 0 Q pc9 lcs9 [] σ r9 ω) → X p l e R s m args below meth c 11 cy D B 0 0 Q 189 [(0, .ref (B + oMd)), (1, .int q1), (2, .long (rJ q6 10 0 0)), (4, .int q8.1), (5, .int q9.1), (6, .int q10.1), (7, .int q12.1), (8, .int q13.1), (9, .int q14.1), (10, .int t16)] [] σ μ17 ω := by
            intro μ17 res9 h hret
            unfold jX6_readBook_189 at h
            refine x_aload_n C dX6_readBook_189 rfl 0 rfl ?_
            obtain ⟨q18, hk13, h⟩ := Option.bind_eq_some_iff.mp h
            refine x_callV C (As := []) (rest := []) (lw_g_mk tw_1319 rfl) (lw_g_mk tsel_36 rfl) (c_Md) (C1 := "HostelBedsModel") (T := TX6) (N := 27) (ci := 6) rfl (okX6_ends l cy D B ek σ μ17 ω _ hk13) rfl rfl (by rw [hR9]; decide) (lw_g_mk tw_1320 rfl) (lw_g_mk tw_7 rfl) (by decide) rfl (lw_g_mk tw_1317 rfl) rfl (Nat.le_of_ble_eq_true rfl) dX6_readBook_190 (by rw [hR9]; decide) ?_
            refine x_aload_n C dX6_readBook_193 rfl 0 rfl ?_
            obtain ⟨q19, hk14, h⟩ := Option.bind_eq_some_iff.mp h
            refine x_callV C (As := []) (rest := []) (lw_g_mk tw_1273 rfl) (lw_g_mk tsel_27 rfl) (c_Md) (C1 := "HostelBedsModel") (T := TX6) (N := 27) (ci := 6) rfl (okX6_isWell l cy D B ek σ q18 ω _ hk14) rfl rfl (by rw [hR9]; decide) (lw_g_mk tw_1274 rfl) (lw_g_mk tw_7 rfl) (by decide) rfl (lw_g_mk tw_1271 rfl) rfl (Nat.le_of_ble_eq_true rfl) dX6_readBook_194 (by rw [hR9]; decide) ?_
            refine x_if_ne C (tgt := 201) dX6_readBook_197 (by decide) (fun hc15 => ?_) (fun hc15 => ?_)
            · rw [if_pos hc15] at h
              refine x_aload_n C dX6_readBook_201 rfl 0 rfl ?_
              refine x_iload C dX6_readBook_202 3 rfl ?_
              refine x_iload C dX6_readBook_204 4 rfl ?_
              refine x_iload C dX6_readBook_206 5 rfl ?_
              refine x_iload C dX6_readBook_208 6 rfl ?_
              refine x_iload C dX6_readBook_210 7 rfl ?_
              refine x_iload C dX6_readBook_212 8 rfl ?_
              obtain ⟨q20, hk16, h⟩ := Option.bind_eq_some_iff.mp h
              refine x_callV C (As := [.int q8.1, .int q9.1, .int q10.1, .int q12.1, .int q13.1, .int q14.1]) (rest := []) (lw_g_mk tw_1339 rfl) (lw_g_mk tsel_41 rfl) (c_Md) (C1 := "HostelBedsModel") (T := TX6) (N := 27) (ci := 6) rfl (okX6_laysBooking l cy D B ek q8.1 q9.1 q10.1 q12.1 q13.1 q14.1 σ q18 ω _ hk16) rfl rfl (by rw [hR9]; decide) (lw_g_mk tw_1340 rfl) (lw_g_mk tw_7 rfl) (by decide) rfl (lw_g_mk tw_1337 rfl) rfl (Nat.le_of_ble_eq_true rfl) dX6_readBook_214 (by rw [hR9]; decide) ?_
              refine x_aload_n C dX6_readBook_217 rfl 0 rfl ?_
              refine x_iload_n C dX6_readBook_218 rfl 1 rfl ?_
              refine x_bipush C (v := 6) dX6_readBook_219 (by decide) ?_
              refine x_iload C dX6_readBook_221 9 rfl ?_
              have hJ20 : ∀ (t21 : Int32) (r9 : Mem), jX6_readBook_231 q1 q20 q6 t21 = some r9 → (∀ (pc9 : Nat) (lcs9 : List (Nat × Value)), decode cX6_readBook pc9 = .ok (.return_, 1) → X p l e R s m args below meth c 11 cy D B 0 0 Q pc9 lcs9 [] σ r9 ω) → X p l e R s m args below meth c 11 cy D B 0 0 Q 231 [(0, .ref (B + oMd)), (1, .int q1), (2, .long (rJ q6 10 0 0))] [.int t21, .int (6 : Int32), .int q1, .ref (B + oMd)] σ q20 ω := by
                intro t21 res9 h hret
                unfold jX6_readBook_231 at h
                obtain ⟨q22, hk17, h⟩ := Option.bind_eq_some_iff.mp h
                refine x_callV C (As := [.int q1, .int (6 : Int32), .int t21]) (rest := []) (lw_g_mk tw_1343 rfl) (lw_g_mk tsel_42 rfl) (c_Md) (C1 := "HostelBedsModel") (T := TX6) (N := 27) (ci := 6) rfl (okX6_lay l cy D B ek q1 (6 : Int32) t21 σ q20 ω _ hk17) rfl rfl (by rw [hR9]; decide) (lw_g_mk tw_1344 rfl) (lw_g_mk tw_7 rfl) (by decide) rfl (lw_g_mk tw_1341 rfl) rfl (Nat.le_of_ble_eq_true rfl) dX6_readBook_231 (by rw [hR9]; decide) ?_
                refine x_aload_n C dX6_readBook_234 rfl 0 rfl ?_
                refine x_get C (C1 := "HostelBedsModel") (T := TX6) (N := 27) (ci := 6) inXg6 _ (c_Md) rfl 8 (by decide) (lw_g_mk tw_1139 rfl) rfl dX6_readBook_235 ?_
                refine x_iload_n C dX6_readBook_238 rfl 1 rfl ?_
                refine x_lload_n C dX6_readBook_239 rfl 2 rfl ?_
                obtain ⟨hg18, h⟩ := gd_some h
                refine x_last C _ (c_RB) hg18 dX6_readBook_240 (s_RB) ?_
                refine x_aload_n C dX6_readBook_241 rfl 0 rfl ?_
                refine x_iload_n C dX6_readBook_242 rfl 1 rfl ?_
                obtain ⟨q23, hk19, h⟩ := Option.bind_eq_some_iff.mp h
                refine x_callV C (As := [.int q1]) (rest := []) (lw_g_mk tw_1347 rfl) (lw_g_mk tsel_43 rfl) (c_Md) (C1 := "HostelBedsModel") (T := TX6) (N := 27) (ci := 6) rfl (okX6_comes l cy D B ek q1 σ (wJ q22 14 0 q1.toNatClampNeg (rJ q6 10 0 0)) ω _ hk19) rfl rfl (by rw [hR9]; decide) (lw_g_mk tw_1348 rfl) (lw_g_mk tw_7 rfl) (by decide) rfl (lw_g_mk tw_1345 rfl) rfl (Nat.le_of_ble_eq_true rfl) dX6_readBook_243 (by rw [hR9]; decide) ?_
                cases h
                exact hret _ _ dX6_readBook_246
              refine x_if_eq C (tgt := 230) dX6_readBook_223 (by decide) (fun hc21 => ?_) (fun hc21 => ?_)
              · rw [if_pos hc21] at h
                refine x_iconst C (v := 0) dX6_readBook_230 (by decide) ?_
                refine x_sub [0, 1, 2] rfl ?_
                exact hJ20 (0 : Int32) _ h hret
              · rw [if_neg hc21] at h
                refine x_iconst C (v := 1) dX6_readBook_226 (by decide) ?_
                refine x_goto C (tgt := 231) dX6_readBook_227 (by decide) ?_
                refine x_sub [0, 1, 2] rfl ?_
                exact hJ20 (1 : Int32) _ h hret
            · rw [if_neg hc15] at h
              cases h
              exact hret _ _ dX6_readBook_200
          refine x_if_eq C (tgt := 189) dX6_readBook_182 (by decide) (fun hc23 => ?_) (fun hc23 => ?_)
          · rw [if_pos hc23] at h
            refine x_sub [1, 2, 3, 4, 5, 6, 7, 8, 9, 0] rfl ?_
            exact hJ22 q14.2 _ h hret
          · rw [if_neg hc23] at h
            refine x_aload_n C dX6_readBook_185 rfl 1 rfl ?_
            obtain ⟨q24, hk24, h⟩ := Option.bind_eq_some_iff.mp h
            refine x_callV C (As := []) (rest := []) (lw_g_mk tw_1304 rfl) (lw_g_mk tsel_33 rfl) (c_Md) (C1 := "HostelBedsModel") (T := TX6) (N := 27) (ci := 6) rfl (okX6_goesOn l cy D B ek σ q14.2 ω _ hk24) rfl rfl (by rw [hR9]; decide) (lw_g_mk tw_1305 rfl) (lw_g_mk tw_7 rfl) (by decide) rfl (lw_g_mk tw_1302 rfl) rfl (Nat.le_of_ble_eq_true rfl) dX6_readBook_186 (by rw [hR9]; decide) ?_
            refine x_sub [1, 2, 3, 4, 5, 6, 7, 8, 9, 0] rfl ?_
            exact hJ22 q24 _ h hret
        have hJ26 : ∀ (r9 : Mem), jX6_readBook_177 q8 q9 q10 q12 q13 q14 q1 q6 = some r9 → (∀ (pc9 : Nat) (lcs9 : List (Nat × Value)), decode cX6_readBook pc9 = .ok (.return_, 1) → X p l e R s m args below meth c 11 cy D B 0 0 Q pc9 lcs9 [] σ r9 ω) → X p l e R s m args below meth c 11 cy D B 0 0 Q 177 [(0, .ref (B + oMd)), (1, .int q1), (2, .long (rJ q6 10 0 0)), (4, .int q8.1), (5, .int q9.1), (6, .int q10.1), (7, .int q12.1), (8, .int q13.1), (9, .int q14.1)] [] σ q14.2 ω := by
          intro res9 h hret
          unfold jX6_readBook_177 at h
          refine x_iconst C (v := 0) dX6_readBook_177 (by decide) ?_
          exact hJ25 (0 : Int32) _ h hret
        refine x_if_eq C (tgt := 177) dX6_readBook_141 (by decide) (fun hc27 => ?_) (fun hc27 => ?_)
        · rw [if_pos hc27] at h
          refine x_sub [3, 4, 5, 6, 7, 8, 2, 1, 0] rfl ?_
          exact hJ26 _ h hret
        · rw [if_neg hc27] at h
          refine x_aload_n C dX6_readBook_144 rfl 3 rfl ?_
          refine x_bipush C (v := 116) dX6_readBook_145 (by decide) ?_
          refine x_bipush C (v := 111) dX6_readBook_147 (by decide) ?_
          refine x_bipush C (v := 103) dX6_readBook_149 (by decide) ?_
          refine x_bipush C (v := 101) dX6_readBook_151 (by decide) ?_
          refine x_bipush C (v := 116) dX6_readBook_153 (by decide) ?_
          refine x_bipush C (v := 104) dX6_readBook_155 (by decide) ?_
          refine x_bipush C (v := 101) dX6_readBook_157 (by decide) ?_
          obtain ⟨q25, hk28, h⟩ := Option.bind_eq_some_iff.mp h
          refine x_callS C (As := [.int (116 : Int32), .int (111 : Int32), .int (103 : Int32), .int (101 : Int32), .int (116 : Int32), .int (104 : Int32), .int (101 : Int32)]) (rest := [.ref (B + oMd)]) (lw_g_mk tw_1280 rfl) (okX6_spelled l cy D B ek (116 : Int32) (111 : Int32) (103 : Int32) (101 : Int32) (116 : Int32) (104 : Int32) (101 : Int32) σ q14.2 ω _ hk28) rfl rfl (by rw [hR9]; decide) (lw_g_mk tw_1281 rfl) (lw_g_mk tw_7 rfl) (by decide) rfl (lw_g_mk tw_1279 rfl) rfl (Nat.le_of_ble_eq_true rfl) dX6_readBook_159 (by rw [hR9]; decide) ?_
          refine x_bipush C (v := 114) dX6_readBook_162 (by decide) ?_
          obtain ⟨q26, hk29, h⟩ := Option.bind_eq_some_iff.mp h
          refine x_callS C (As := [.long q25, .int (114 : Int32)]) (rest := [.ref (B + oMd)]) (lw_g_mk tw_1283 rfl) (okX6_more l cy D B ek q25 (114 : Int32) σ q14.2 ω _ hk29) rfl rfl (by rw [hR9]; decide) (lw_g_mk tw_1284 rfl) (lw_g_mk tw_7 rfl) (by decide) rfl (lw_g_mk tw_1282 rfl) rfl (Nat.le_of_ble_eq_true rfl) dX6_readBook_164 (by rw [hR9]; decide) ?_
          obtain ⟨q27, hk30, h⟩ := Option.bind_eq_some_iff.mp h
          refine x_callV C (As := [.long q26]) (rest := []) (lw_g_mk tw_1288 rfl) (lw_g_mk tsel_29 rfl) (c_Md) (C1 := "HostelBedsModel") (T := TX6) (N := 27) (ci := 6) rfl (okX6_isWord l cy D B ek q26 σ q14.2 ω _ hk30) rfl rfl (by rw [hR9]; decide) (lw_g_mk tw_1289 rfl) (lw_g_mk tw_7 rfl) (by decide) rfl (lw_g_mk tw_1286 rfl) rfl (Nat.le_of_ble_eq_true rfl) dX6_readBook_167 (by rw [hR9]; decide) ?_
          refine x_if_eq C (tgt := 177) dX6_readBook_170 (by decide) (fun hc31 => ?_) (fun hc31 => ?_)
          · rw [if_pos hc31] at h
            refine x_sub [3, 4, 5, 6, 7, 8, 2, 1, 0] rfl ?_
            exact hJ26 _ h hret
          · rw [if_neg hc31] at h
            refine x_iconst C (v := 1) dX6_readBook_173 (by decide) ?_
            refine x_goto C (tgt := 178) dX6_readBook_174 (by decide) ?_
            refine x_sub [3, 4, 5, 6, 7, 8, 2, 1, 0] rfl ?_
            exact hJ25 (1 : Int32) _ h hret
      refine x_if_ne C (tgt := 108) dX6_readBook_101 (by decide) (fun hc33 => ?_) (fun hc33 => ?_)
      · rw [if_pos hc33] at h
        refine x_iconst C (v := 0) dX6_readBook_108 (by decide) ?_
        refine x_sub [4, 5, 3, 2, 1, 0] rfl ?_
        exact hJ32 (0 : Int32) _ h hret
      · rw [if_neg hc33] at h
        refine x_iconst C (v := 1) dX6_readBook_104 (by decide) ?_
        refine x_goto C (tgt := 109) dX6_readBook_105 (by decide) ?_
        refine x_sub [4, 5, 3, 2, 1, 0] rfl ?_
        exact hJ32 (1 : Int32) _ h hret
    have hJ35 : ∀ (r9 : Mem), jX6_readBook_55 q4 q1 = some r9 → (∀ (pc9 : Nat) (lcs9 : List (Nat × Value)), decode cX6_readBook pc9 = .ok (.return_, 1) → X p l e R s m args below meth c 11 cy D B 0 0 Q pc9 lcs9 [] σ r9 ω) → X p l e R s m args below meth c 11 cy D B 0 0 Q 55 [(0, .ref (B + oMd)), (1, .int q1)] [.ref (B + oMd)] σ q4 ω := by
      intro res9 h hret
      unfold jX6_readBook_55 at h
      refine x_iconst C (v := 0) dX6_readBook_55 (by decide) ?_
      exact hJ34 (0 : Int32) _ h hret
    refine x_icmp_ne C (tgt := 55) dX6_readBook_32 (by decide) (fun hc36 => ?_) (fun hc36 => ?_)
    · rw [if_pos hc36] at h
      exact hJ35 _ h hret
    · rw [if_neg hc36] at h
      refine x_aload_n C dX6_readBook_35 rfl 0 rfl ?_
      refine x_get C (C1 := "HostelBedsModel") (T := TX6) (N := 27) (ci := 6) inXg6 _ (c_Md) rfl 19 (by decide) (lw_g_mk tw_1150 rfl) rfl dX6_readBook_36 ?_
      refine x_aload_n C dX6_readBook_39 rfl 0 rfl ?_
      refine x_get C (C1 := "HostelBedsModel") (T := TX6) (N := 27) (ci := 6) inXg6 _ (c_Md) rfl 8 (by decide) (lw_g_mk tw_1139 rfl) rfl dX6_readBook_40 ?_
      refine x_iload_n C dX6_readBook_43 rfl 1 rfl ?_
      obtain ⟨q28, hk37, h⟩ := Option.bind_eq_some_iff.mp h
      refine x_callS C (As := [.long (rJ q4 10 0 0), .ref (B + oRB), .int q1]) (rest := [.ref (B + oMd)]) (lw_g_mk tw_1307 rfl) (okX6_placeOf_RB l cy D B ek (rJ q4 10 0 0) q1 σ q4 ω _ hk37) rfl rfl (by rw [hR9]; decide) (lw_g_mk tw_1308 rfl) (lw_g_mk tw_7 rfl) (by decide) rfl (lw_g_mk tw_1306 rfl) rfl (Nat.le_of_ble_eq_true rfl) dX6_readBook_44 (by rw [hR9]; decide) ?_
      refine x_iconst C (v := -1) dX6_readBook_47 (by decide) ?_
      refine x_icmp_ne C (tgt := 55) dX6_readBook_48 (by decide) (fun hc38 => ?_) (fun hc38 => ?_)
      · rw [if_pos hc38] at h
        exact hJ35 _ h hret
      · rw [if_neg hc38] at h
        refine x_iconst C (v := 1) dX6_readBook_51 (by decide) ?_
        refine x_goto C (tgt := 56) dX6_readBook_52 (by decide) ?_
        exact hJ34 (1 : Int32) _ h hret
  refine x_icmp_ge C (tgt := 18) dX6_readBook_11 (by decide) (fun hc40 => ?_) (fun hc40 => ?_)
  · rw [if_pos hc40] at h
    refine x_iconst C (v := 0) dX6_readBook_18 (by decide) ?_
    refine x_sub [1, 0] rfl ?_
    exact hJ39 (0 : Int32) _ h hret
  · rw [if_neg hc40] at h
    refine x_iconst C (v := 1) dX6_readBook_14 (by decide) ?_
    refine x_goto C (tgt := 19) dX6_readBook_15 (by decide) ?_
    refine x_sub [1, 0] rfl ?_
    exact hJ39 (1 : Int32) _ h hret
def jX6_readKnown_56 (q1 : Mem) (t2 : Int32) (t3 : Int32) : Option (Int32 × Mem) := ((fX6_must t3 q1).bind fun q4 => ((fX6_goesOn q4).bind fun q5 => ((fX6_ends q5).bind fun q6 => (some (t2, q6)))))
def jX6_readKnown_55 (q1 : Mem) (t2 : Int32) : Option (Int32 × Mem) := (jX6_readKnown_56 q1 t2 (0 : Int32))
def jX6_readKnown_33 (q1 : Mem) (t2 : Int32) : Option (Int32 × Mem) := (if t2 = (-1 : Int32) then (jX6_readKnown_55 q1 t2) else ((fX6_of t2 (8 : Int32) q1).bind fun q7 => (if q7 = (2 : Int32) then (jX6_readKnown_55 q1 t2) else (jX6_readKnown_56 q1 t2 (1 : Int32)))))
def fX6_readKnown (μ : Mem) : Option (Int32 × Mem) := ((fX6_goesOn μ).bind fun q1 => (if ¬ (rI q1 73 0 0) = (1 : Int32) then (jX6_readKnown_33 q1 (-1 : Int32)) else ((fX6_get (37 : Int32) q1).bind fun q8 => ((fX6_placeOf_RB (rJ q1 10 0 0) q8 q1).bind fun q9 => (jX6_readKnown_33 q1 q9)))))
set_option maxHeartbeats 4000000 in
set_option maxRecDepth 100000 in
theorem okX6_readKnown (l : Launch) (cy : Nat → ClassId) (D : va_G) (B : Nat) (ek : EK) (σ μ ω : Mem) (res : Int32 × Mem) (h : fX6_readKnown μ = some res) : CT l cy D B ek yX6_readKnown cX6_readKnown 2 (some .int) ({ frames := 5, cells := 0, slots := 0, locals := 104 } : Room) [.ref (B + oMd)] σ μ ω (some (.int res.1)) σ res.2 ω := by
  refine met_X (own := "HostelBedsModel") (by decide) rfl (Nat.le_of_ble_eq_true rfl) ?_
  intro p e s m args below meth c C hrT hlk
  have hret : ∀ (pc9 : Nat) (lcs9 : List (Nat × Value)), decode cX6_readKnown pc9 = .ok (.ireturn, 1) → narrow .int (.int res.1) = .int res.1 → X p l e ({ frames := 5, cells := 0, slots := 0, locals := 104 } : Room) s m args below meth c 2 cy D B 0 0 (MQ below (QR cy D B (some (.int res.1)) σ res.2 ω) args s 0 0 (aB B)) pc9 lcs9 [.int res.1] σ res.2 ω := fun _ _ hd hn => x_zret C hrT hlk hn hd
  generalize (MQ below (QR cy D B (some (.int res.1)) σ res.2 ω) args s 0 0 (aB B)) = Q at hret ⊢
  obtain ⟨R, hR9⟩ : ∃ R : Room, R = ({ frames := 5, cells := 0, slots := 0, locals := 104 } : Room) := ⟨_, rfl⟩
  rw [← hR9] at hret ⊢
  unfold fX6_readKnown at h
  show X p l e R s m args below meth c 2 cy D B 0 0 Q 0 [(0, .ref (B + oMd))] [] σ μ ω
  refine x_aload_n C dX6_readKnown_0 rfl 0 rfl ?_
  obtain ⟨q1, hk1, h⟩ := Option.bind_eq_some_iff.mp h
  refine x_callV C (As := []) (rest := []) (lw_g_mk tw_1304 rfl) (lw_g_mk tsel_33 rfl) (c_Md) (C1 := "HostelBedsModel") (T := TX6) (N := 27) (ci := 6) rfl (okX6_goesOn l cy D B ek σ μ ω _ hk1) rfl rfl (by rw [hR9]; decide) (lw_g_mk tw_1305 rfl) (lw_g_mk tw_7 rfl) (by decide) rfl (lw_g_mk tw_1302 rfl) rfl (Nat.le_of_ble_eq_true rfl) dX6_readKnown_1 (by rw [hR9]; decide) ?_
  refine x_aload_n C dX6_readKnown_4 rfl 0 rfl ?_
  refine x_get C (C1 := "HostelBedsModel") (T := TX6) (N := 27) (ci := 6) inXg6 _ (c_Md) rfl 17 (by decide) (lw_g_mk tw_1148 rfl) rfl dX6_readKnown_5 ?_
  refine x_iconst C (v := 1) dX6_readKnown_8 (by decide) ?_
  have hJ10 : ∀ (t2 : Int32) (r9 : Int32 × Mem), jX6_readKnown_33 q1 t2 = some r9 → (∀ (pc9 : Nat) (lcs9 : List (Nat × Value)), decode cX6_readKnown pc9 = .ok (.ireturn, 1) → narrow .int (.int r9.1) = .int r9.1 → X p l e R s m args below meth c 2 cy D B 0 0 Q pc9 lcs9 [.int r9.1] σ r9.2 ω) → X p l e R s m args below meth c 2 cy D B 0 0 Q 33 [(0, .ref (B + oMd))] [.int t2] σ q1 ω := by
    intro t2 res9 h hret
    unfold jX6_readKnown_33 at h
    refine x_istore_n C [(1, .int t2), (0, .ref (B + oMd))] dX6_readKnown_33 rfl (by decide) rfl ?_
    refine x_aload_n C dX6_readKnown_34 rfl 1 rfl ?_
    refine x_iload_n C dX6_readKnown_35 rfl 0 rfl ?_
    refine x_iconst C (v := -1) dX6_readKnown_36 (by decide) ?_
    have hJ5 : ∀ (t3 : Int32) (r9 : Int32 × Mem), jX6_readKnown_56 q1 t2 t3 = some r9 → (∀ (pc9 : Nat) (lcs9 : List (Nat × Value)), decode cX6_readKnown pc9 = .ok (.ireturn, 1) → narrow .int (.int r9.1) = .int r9.1 → X p l e R s m args below meth c 2 cy D B 0 0 Q pc9 lcs9 [.int r9.1] σ r9.2 ω) → X p l e R s m args below meth c 2 cy D B 0 0 Q 56 [(0, .ref (B + oMd)), (1, .int t2)] [.int t3, .ref (B + oMd)] σ q1 ω := by
      intro t3 res9 h hret
      unfold jX6_readKnown_56 at h
      obtain ⟨q4, hk2, h⟩ := Option.bind_eq_some_iff.mp h
      refine x_callV C (As := [.int t3]) (rest := []) (lw_g_mk tw_1300 rfl) (lw_g_mk tsel_32 rfl) (c_Md) (C1 := "HostelBedsModel") (T := TX6) (N := 27) (ci := 6) rfl (okX6_must l cy D B ek t3 σ q1 ω _ hk2) rfl rfl (by rw [hR9]; decide) (lw_g_mk tw_1301 rfl) (lw_g_mk tw_7 rfl) (by decide) rfl (lw_g_mk tw_1298 rfl) rfl (Nat.le_of_ble_eq_true rfl) dX6_readKnown_56 (by rw [hR9]; decide) ?_
      refine x_aload_n C dX6_readKnown_59 rfl 0 rfl ?_
      obtain ⟨q5, hk3, h⟩ := Option.bind_eq_some_iff.mp h
      refine x_callV C (As := []) (rest := []) (lw_g_mk tw_1304 rfl) (lw_g_mk tsel_33 rfl) (c_Md) (C1 := "HostelBedsModel") (T := TX6) (N := 27) (ci := 6) rfl (okX6_goesOn l cy D B ek σ q4 ω _ hk3) rfl rfl (by rw [hR9]; decide) (lw_g_mk tw_1305 rfl) (lw_g_mk tw_7 rfl) (by decide) rfl (lw_g_mk tw_1302 rfl) rfl (Nat.le_of_ble_eq_true rfl) dX6_readKnown_60 (by rw [hR9]; decide) ?_
      refine x_aload_n C dX6_readKnown_63 rfl 0 rfl ?_
      obtain ⟨q6, hk4, h⟩ := Option.bind_eq_some_iff.mp h
      refine x_callV C (As := []) (rest := []) (lw_g_mk tw_1319 rfl) (lw_g_mk tsel_36 rfl) (c_Md) (C1 := "HostelBedsModel") (T := TX6) (N := 27) (ci := 6) rfl (okX6_ends l cy D B ek σ q5 ω _ hk4) rfl rfl (by rw [hR9]; decide) (lw_g_mk tw_1320 rfl) (lw_g_mk tw_7 rfl) (by decide) rfl (lw_g_mk tw_1317 rfl) rfl (Nat.le_of_ble_eq_true rfl) dX6_readKnown_64 (by rw [hR9]; decide) ?_
      refine x_iload_n C dX6_readKnown_67 rfl 1 rfl ?_
      cases h
      exact hret _ _ dX6_readKnown_68 rfl
    have hJ6 : ∀ (r9 : Int32 × Mem), jX6_readKnown_55 q1 t2 = some r9 → (∀ (pc9 : Nat) (lcs9 : List (Nat × Value)), decode cX6_readKnown pc9 = .ok (.ireturn, 1) → narrow .int (.int r9.1) = .int r9.1 → X p l e R s m args below meth c 2 cy D B 0 0 Q pc9 lcs9 [.int r9.1] σ r9.2 ω) → X p l e R s m args below meth c 2 cy D B 0 0 Q 55 [(0, .ref (B + oMd)), (1, .int t2)] [.ref (B + oMd)] σ q1 ω := by
      intro res9 h hret
      unfold jX6_readKnown_55 at h
      refine x_iconst C (v := 0) dX6_readKnown_55 (by decide) ?_
      exact hJ5 (0 : Int32) _ h hret
    refine x_icmp_eq C (tgt := 55) dX6_readKnown_37 (by decide) (fun hc7 => ?_) (fun hc7 => ?_)
    · rw [if_pos hc7] at h
      refine x_sub [1, 0] rfl ?_
      exact hJ6 _ h hret
    · rw [if_neg hc7] at h
      refine x_aload_n C dX6_readKnown_40 rfl 1 rfl ?_
      refine x_iload_n C dX6_readKnown_41 rfl 0 rfl ?_
      refine x_bipush C (v := 8) dX6_readKnown_42 (by decide) ?_
      obtain ⟨q7, hk8, h⟩ := Option.bind_eq_some_iff.mp h
      refine x_callV C (As := [.int t2, .int (8 : Int32)]) (rest := [.ref (B + oMd)]) (lw_g_mk tw_1367 rfl) (lw_g_mk tsel_48 rfl) (c_Md) (C1 := "HostelBedsModel") (T := TX6) (N := 27) (ci := 6) rfl (okX6_of l cy D B ek t2 (8 : Int32) σ q1 ω _ hk8) rfl rfl (by rw [hR9]; decide) (lw_g_mk tw_1368 rfl) (lw_g_mk tw_7 rfl) (by decide) rfl (lw_g_mk tw_1365 rfl) rfl (Nat.le_of_ble_eq_true rfl) dX6_readKnown_44 (by rw [hR9]; decide) ?_
      refine x_iconst C (v := 2) dX6_readKnown_47 (by decide) ?_
      refine x_icmp_eq C (tgt := 55) dX6_readKnown_48 (by decide) (fun hc9 => ?_) (fun hc9 => ?_)
      · rw [if_pos hc9] at h
        refine x_sub [1, 0] rfl ?_
        exact hJ6 _ h hret
      · rw [if_neg hc9] at h
        refine x_iconst C (v := 1) dX6_readKnown_51 (by decide) ?_
        refine x_goto C (tgt := 56) dX6_readKnown_52 (by decide) ?_
        refine x_sub [1, 0] rfl ?_
        exact hJ5 (1 : Int32) _ h hret
  refine x_icmp_ne C (tgt := 32) dX6_readKnown_9 (by decide) (fun hc11 => ?_) (fun hc11 => ?_)
  · rw [if_pos hc11] at h
    refine x_iconst C (v := -1) dX6_readKnown_32 (by decide) ?_
    exact hJ10 (-1 : Int32) _ h hret
  · rw [if_neg hc11] at h
    refine x_aload_n C dX6_readKnown_12 rfl 0 rfl ?_
    refine x_get C (C1 := "HostelBedsModel") (T := TX6) (N := 27) (ci := 6) inXg6 _ (c_Md) rfl 19 (by decide) (lw_g_mk tw_1150 rfl) rfl dX6_readKnown_13 ?_
    refine x_aload_n C dX6_readKnown_16 rfl 0 rfl ?_
    refine x_get C (C1 := "HostelBedsModel") (T := TX6) (N := 27) (ci := 6) inXg6 _ (c_Md) rfl 8 (by decide) (lw_g_mk tw_1139 rfl) rfl dX6_readKnown_17 ?_
    refine x_aload_n C dX6_readKnown_20 rfl 0 rfl ?_
    refine x_bipush C (v := 37) dX6_readKnown_21 (by decide) ?_
    obtain ⟨q8, hk12, h⟩ := Option.bind_eq_some_iff.mp h
    refine x_callV C (As := [.int (37 : Int32)]) (rest := [.ref (B + oRB), .long (rJ q1 10 0 0)]) (lw_g_mk tw_1296 rfl) (lw_g_mk tsel_31 rfl) (c_Md) (C1 := "HostelBedsModel") (T := TX6) (N := 27) (ci := 6) rfl (okX6_get l cy D B ek (37 : Int32) σ q1 ω _ hk12) rfl rfl (by rw [hR9]; decide) (lw_g_mk tw_1297 rfl) (lw_g_mk tw_7 rfl) (by decide) rfl (lw_g_mk tw_1294 rfl) rfl (Nat.le_of_ble_eq_true rfl) dX6_readKnown_23 (by rw [hR9]; decide) ?_
    obtain ⟨q9, hk13, h⟩ := Option.bind_eq_some_iff.mp h
    refine x_callS C (As := [.long (rJ q1 10 0 0), .ref (B + oRB), .int q8]) (rest := []) (lw_g_mk tw_1307 rfl) (okX6_placeOf_RB l cy D B ek (rJ q1 10 0 0) q8 σ q1 ω _ hk13) rfl rfl (by rw [hR9]; decide) (lw_g_mk tw_1308 rfl) (lw_g_mk tw_7 rfl) (by decide) rfl (lw_g_mk tw_1306 rfl) rfl (Nat.le_of_ble_eq_true rfl) dX6_readKnown_26 (by rw [hR9]; decide) ?_
    refine x_goto C (tgt := 33) dX6_readKnown_29 (by decide) ?_
    exact hJ10 q9 _ h hret
def jX6_goesThrough_63 (a12 : Int32 × Int32 × Mem) (x4 : Int32) (μ5 : Mem) : Option ((Int32 × Int32 × Mem) ⊕ (Int32 × Mem)) := (some (.inl (x4, a12.2.1 + (1 : Int32), μ5)))
def stX6_goesThrough_12 (q1 : Int32) (a12 : Int32 × Int32 × Mem) : Option ((Int32 × Int32 × Mem) ⊕ (Int32 × Mem)) := (if q1 ≤ a12.2.1 then (some (.inr (a12.1, a12.2.2))) else ((fX6_get ((192 : Int32) + a12.2.1) a12.2.2).bind fun q2 => ((fX6_canBeAccepted q2 a12.2.2).bind fun q3 => (if q3 = 0 then ((fX6_set ((192 : Int32) + a12.1) q2 a12.2.2).bind fun q6 => (jX6_goesThrough_63 a12 (a12.1 + (1 : Int32)) q6)) else ((fX6_lay q2 (8 : Int32) (1 : Int32) a12.2.2).bind fun q7 => (jX6_goesThrough_63 a12 a12.1 q7))))))
def fX6_goesThrough (μ : Mem) : Option (Int32 × Mem) := ((fX6_get (191 : Int32) μ).bind fun q1 => ((loop (stX6_goesThrough_12 q1) 5000 ((0 : Int32), (0 : Int32), μ)).bind fun b12 => ((fX6_set (191 : Int32) b12.1 b12.2).bind fun q8 => (some (q1 - b12.1, q8)))))
set_option maxHeartbeats 4000000 in
set_option maxRecDepth 100000 in
theorem okX6_goesThrough (l : Launch) (cy : Nat → ClassId) (D : va_G) (B : Nat) (ek : EK) (σ μ ω : Mem) (res : Int32 × Mem) (h : fX6_goesThrough μ = some res) : CT l cy D B ek yX6_goesThrough cX6_goesThrough 5 (some .int) ({ frames := 5, cells := 0, slots := 0, locals := 111 } : Room) [.ref (B + oMd)] σ μ ω (some (.int res.1)) σ res.2 ω := by
  refine met_X (own := "HostelBedsModel") (by decide) rfl (Nat.le_of_ble_eq_true rfl) ?_
  intro p e s m args below meth c C hrT hlk
  have hret : ∀ (pc9 : Nat) (lcs9 : List (Nat × Value)), decode cX6_goesThrough pc9 = .ok (.ireturn, 1) → narrow .int (.int res.1) = .int res.1 → X p l e ({ frames := 5, cells := 0, slots := 0, locals := 111 } : Room) s m args below meth c 5 cy D B 0 0 (MQ below (QR cy D B (some (.int res.1)) σ res.2 ω) args s 0 0 (aB B)) pc9 lcs9 [.int res.1] σ res.2 ω := fun _ _ hd hn => x_zret C hrT hlk hn hd
  generalize (MQ below (QR cy D B (some (.int res.1)) σ res.2 ω) args s 0 0 (aB B)) = Q at hret ⊢
  obtain ⟨R, hR9⟩ : ∃ R : Room, R = ({ frames := 5, cells := 0, slots := 0, locals := 111 } : Room) := ⟨_, rfl⟩
  rw [← hR9] at hret ⊢
  unfold fX6_goesThrough at h
  show X p l e R s m args below meth c 5 cy D B 0 0 Q 0 [(0, .ref (B + oMd))] [] σ μ ω
  refine x_aload_n C dX6_goesThrough_0 rfl 0 rfl ?_
  refine x_sipush C (v := 191) dX6_goesThrough_1 (by decide) ?_
  obtain ⟨q1, hk1, h⟩ := Option.bind_eq_some_iff.mp h
  refine x_callV C (As := [.int (191 : Int32)]) (rest := []) (lw_g_mk tw_1296 rfl) (lw_g_mk tsel_31 rfl) (c_Md) (C1 := "HostelBedsModel") (T := TX6) (N := 27) (ci := 6) rfl (okX6_get l cy D B ek (191 : Int32) σ μ ω _ hk1) rfl rfl (by rw [hR9]; decide) (lw_g_mk tw_1297 rfl) (lw_g_mk tw_7 rfl) (by decide) rfl (lw_g_mk tw_1294 rfl) rfl (Nat.le_of_ble_eq_true rfl) dX6_goesThrough_4 (by rw [hR9]; decide) ?_
  refine x_istore_n C [(1, .int q1), (0, .ref (B + oMd))] dX6_goesThrough_7 rfl (by decide) rfl ?_
  refine x_iconst C (v := 0) dX6_goesThrough_8 (by decide) ?_
  refine x_istore_n C [(2, .int (0 : Int32)), (1, .int q1), (0, .ref (B + oMd))] dX6_goesThrough_9 rfl (by decide) rfl ?_
  refine x_iconst C (v := 0) dX6_goesThrough_10 (by decide) ?_
  refine x_istore_n C [(3, .int (0 : Int32)), (2, .int (0 : Int32)), (1, .int q1), (0, .ref (B + oMd))] dX6_goesThrough_11 rfl (by decide) rfl ?_
  obtain ⟨b12, hk11, h⟩ := Option.bind_eq_some_iff.mp h
  refine x_sub [3, 2, 1, 0] rfl ?_
  refine loop_run (step := stX6_goesThrough_12 q1) (P := fun (a12 : Int32 × Int32 × Mem) => X p l e R s m args below meth c 5 cy D B 0 0 Q 12 [(0, .ref (B + oMd)), (1, .int q1), (2, .int a12.1), (3, .int a12.2.1)] [] σ a12.2.2 ω) (K := fun (b12 : Int32 × Mem) => X p l e R s m args below meth c 5 cy D B 0 0 Q 69 [(0, .ref (B + oMd)), (1, .int q1), (2, .int b12.1)] [] σ b12.2 ω) ?_ 5000 ((0 : Int32), (0 : Int32), μ) b12 hk11 ?_
  · intro a12 r h hA2 hB3
    unfold stX6_goesThrough_12 at h
    refine x_iload_n C dX6_goesThrough_12 rfl 3 rfl ?_
    refine x_iload_n C dX6_goesThrough_13 rfl 1 rfl ?_
    refine x_icmp_ge C (tgt := 69) dX6_goesThrough_14 (by decide) (fun hc4 => ?_) (fun hc4 => ?_)
    · rw [if_pos hc4] at h
      cases h
      refine x_sub [0, 1, 2] rfl ?_
      exact hB3 (a12.1, a12.2.2) rfl
    · rw [if_neg hc4] at h
      refine x_aload_n C dX6_goesThrough_17 rfl 0 rfl ?_
      refine x_sipush C (v := 192) dX6_goesThrough_18 (by decide) ?_
      refine x_iload_n C dX6_goesThrough_21 rfl 3 rfl ?_
      refine x_iadd C dX6_goesThrough_22 ?_
      obtain ⟨q2, hk5, h⟩ := Option.bind_eq_some_iff.mp h
      refine x_callV C (As := [.int ((192 : Int32) + a12.2.1)]) (rest := []) (lw_g_mk tw_1296 rfl) (lw_g_mk tsel_31 rfl) (c_Md) (C1 := "HostelBedsModel") (T := TX6) (N := 27) (ci := 6) rfl (okX6_get l cy D B ek ((192 : Int32) + a12.2.1) σ a12.2.2 ω _ hk5) rfl rfl (by rw [hR9]; decide) (lw_g_mk tw_1297 rfl) (lw_g_mk tw_7 rfl) (by decide) rfl (lw_g_mk tw_1294 rfl) rfl (Nat.le_of_ble_eq_true rfl) dX6_goesThrough_23 (by rw [hR9]; decide) ?_
      refine x_istore C [(4, .int q2), (0, .ref (B + oMd)), (1, .int q1), (2, .int a12.1), (3, .int a12.2.1)] dX6_goesThrough_26 (by decide) rfl ?_
      refine x_aload_n C dX6_goesThrough_28 rfl 1 rfl ?_
      refine x_iload C dX6_goesThrough_29 0 rfl ?_
      obtain ⟨q3, hk6, h⟩ := Option.bind_eq_some_iff.mp h
      refine x_callV C (As := [.int q2]) (rest := []) (lw_g_mk tw_1351 rfl) (lw_g_mk tsel_44 rfl) (c_Md) (C1 := "HostelBedsModel") (T := TX6) (N := 27) (ci := 6) rfl (okX6_canBeAccepted l cy D B ek q2 σ a12.2.2 ω _ hk6) rfl rfl (by rw [hR9]; decide) (lw_g_mk tw_1352 rfl) (lw_g_mk tw_7 rfl) (by decide) rfl (lw_g_mk tw_1349 rfl) rfl (Nat.le_of_ble_eq_true rfl) dX6_goesThrough_31 (by rw [hR9]; decide) ?_
      have hJ7 : ∀ (x4 : Int32) (μ5 : Mem) (r9 : (Int32 × Int32 × Mem) ⊕ (Int32 × Mem)), jX6_goesThrough_63 a12 x4 μ5 = some r9 → (∀ a2, r9 = .inl a2 → (fun (a12 : Int32 × Int32 × Mem) => X p l e R s m args below meth c 5 cy D B 0 0 Q 12 [(0, .ref (B + oMd)), (1, .int q1), (2, .int a12.1), (3, .int a12.2.1)] [] σ a12.2.2 ω) a2) → (∀ b2, r9 = .inr b2 → (fun (b12 : Int32 × Mem) => X p l e R s m args below meth c 5 cy D B 0 0 Q 69 [(0, .ref (B + oMd)), (1, .int q1), (2, .int b12.1)] [] σ b12.2 ω) b2) → X p l e R s m args below meth c 5 cy D B 0 0 Q 63 [(0, .ref (B + oMd)), (1, .int q1), (2, .int x4), (3, .int a12.2.1)] [] σ μ5 ω := by
        intro x4 μ5 r h hA2 hB3
        unfold jX6_goesThrough_63 at h
        refine x_iinc C (k := 3) [(3, .int (a12.2.1 + (1 : Int32))), (0, .ref (B + oMd)), (1, .int q1), (2, .int x4)] dX6_goesThrough_63 rfl rfl (by decide) rfl ?_
        refine x_goto C (tgt := 12) dX6_goesThrough_66 (by decide) ?_
        cases h
        refine x_sub [1, 2, 3, 0] rfl ?_
        exact hA2 (x4, a12.2.1 + (1 : Int32), μ5) rfl
      refine x_if_eq C (tgt := 49) dX6_goesThrough_34 (by decide) (fun hc8 => ?_) (fun hc8 => ?_)
      · rw [if_pos hc8] at h
        refine x_aload_n C dX6_goesThrough_49 rfl 1 rfl ?_
        refine x_sipush C (v := 192) dX6_goesThrough_50 (by decide) ?_
        refine x_iload_n C dX6_goesThrough_53 rfl 3 rfl ?_
        refine x_iadd C dX6_goesThrough_54 ?_
        refine x_iload C dX6_goesThrough_55 0 rfl ?_
        obtain ⟨q6, hk9, h⟩ := Option.bind_eq_some_iff.mp h
        refine x_callV C (As := [.int ((192 : Int32) + a12.1), .int q2]) (rest := []) (lw_g_mk tw_1323 rfl) (lw_g_mk tsel_37 rfl) (c_Md) (C1 := "HostelBedsModel") (T := TX6) (N := 27) (ci := 6) rfl (okX6_set l cy D B ek ((192 : Int32) + a12.1) q2 σ a12.2.2 ω _ hk9) rfl rfl (by rw [hR9]; decide) (lw_g_mk tw_1324 rfl) (lw_g_mk tw_7 rfl) (by decide) rfl (lw_g_mk tw_1321 rfl) rfl (Nat.le_of_ble_eq_true rfl) dX6_goesThrough_57 (by rw [hR9]; decide) ?_
        refine x_iinc C (k := 3) [(2, .int (a12.1 + (1 : Int32))), (4, .int q2), (0, .ref (B + oMd)), (1, .int q1), (3, .int a12.2.1)] dX6_goesThrough_60 rfl rfl (by decide) rfl ?_
        refine x_sub [2, 3, 0, 4] rfl ?_
        exact hJ7 (a12.1 + (1 : Int32)) q6 _ h hA2 hB3
      · rw [if_neg hc8] at h
        refine x_aload_n C dX6_goesThrough_37 rfl 1 rfl ?_
        refine x_iload C dX6_goesThrough_38 0 rfl ?_
        refine x_bipush C (v := 8) dX6_goesThrough_40 (by decide) ?_
        refine x_iconst C (v := 1) dX6_goesThrough_42 (by decide) ?_
        obtain ⟨q7, hk10, h⟩ := Option.bind_eq_some_iff.mp h
        refine x_callV C (As := [.int q2, .int (8 : Int32), .int (1 : Int32)]) (rest := []) (lw_g_mk tw_1343 rfl) (lw_g_mk tsel_42 rfl) (c_Md) (C1 := "HostelBedsModel") (T := TX6) (N := 27) (ci := 6) rfl (okX6_lay l cy D B ek q2 (8 : Int32) (1 : Int32) σ a12.2.2 ω _ hk10) rfl rfl (by rw [hR9]; decide) (lw_g_mk tw_1344 rfl) (lw_g_mk tw_7 rfl) (by decide) rfl (lw_g_mk tw_1341 rfl) rfl (Nat.le_of_ble_eq_true rfl) dX6_goesThrough_43 (by rw [hR9]; decide) ?_
        refine x_goto C (tgt := 63) dX6_goesThrough_46 (by decide) ?_
        refine x_sub [1, 2, 3, 4] rfl ?_
        exact hJ7 a12.1 q7 _ h hA2 hB3
  · show X p l e R s m args below meth c 5 cy D B 0 0 Q 69 [(0, .ref (B + oMd)), (1, .int q1), (2, .int b12.1)] [] σ b12.2 ω
    refine x_aload_n C dX6_goesThrough_69 rfl 0 rfl ?_
    refine x_sipush C (v := 191) dX6_goesThrough_70 (by decide) ?_
    refine x_iload_n C dX6_goesThrough_73 rfl 2 rfl ?_
    obtain ⟨q8, hk12, h⟩ := Option.bind_eq_some_iff.mp h
    refine x_callV C (As := [.int (191 : Int32), .int b12.1]) (rest := []) (lw_g_mk tw_1323 rfl) (lw_g_mk tsel_37 rfl) (c_Md) (C1 := "HostelBedsModel") (T := TX6) (N := 27) (ci := 6) rfl (okX6_set l cy D B ek (191 : Int32) b12.1 σ b12.2 ω _ hk12) rfl rfl (by rw [hR9]; decide) (lw_g_mk tw_1324 rfl) (lw_g_mk tw_7 rfl) (by decide) rfl (lw_g_mk tw_1321 rfl) rfl (Nat.le_of_ble_eq_true rfl) dX6_goesThrough_74 (by rw [hR9]; decide) ?_
    refine x_iload_n C dX6_goesThrough_77 rfl 1 rfl ?_
    refine x_iload_n C dX6_goesThrough_78 rfl 2 rfl ?_
    refine x_isub C dX6_goesThrough_79 ?_
    cases h
    exact hret _ _ dX6_goesThrough_80 rfl
def jX6_cancels_60 (a12 : Int32 × Int32 × Mem) (x4 : Int32) (μ5 : Mem) : Option ((Int32 × Int32 × Mem) ⊕ (Int32 × Mem)) := (some (.inl (x4, a12.2.1 + (1 : Int32), μ5)))
def stX6_cancels_12 (p1 : Int32) (a12 : Int32 × Int32 × Mem) : Option ((Int32 × Int32 × Mem) ⊕ (Int32 × Mem)) := ((fX6_get (191 : Int32) a12.2.2).bind fun q2 => (if q2 ≤ a12.2.1 then (some (.inr (a12.1, a12.2.2))) else ((fX6_get ((192 : Int32) + a12.2.1) a12.2.2).bind fun q3 => (if ¬ q3 = p1 then ((fX6_get ((192 : Int32) + a12.2.1) a12.2.2).bind fun q6 => ((fX6_set ((192 : Int32) + a12.1) q6 a12.2.2).bind fun q7 => (jX6_cancels_60 a12 (a12.1 + (1 : Int32)) q7))) else (jX6_cancels_60 a12 a12.1 a12.2.2)))))
def fX6_cancels (p1 : Int32) (μ : Mem) : Option (Int32 × Mem) := ((fX6_lay p1 (8 : Int32) (2 : Int32) μ).bind fun q1 => ((loop (stX6_cancels_12 p1) 5000 ((0 : Int32), (0 : Int32), q1)).bind fun b12 => ((fX6_set (191 : Int32) b12.1 b12.2).bind fun q8 => ((fX6_goesThrough q8).bind fun q9 => (some (q9.1, q9.2))))))
set_option maxHeartbeats 4000000 in
set_option maxRecDepth 100000 in
theorem okX6_cancels (l : Launch) (cy : Nat → ClassId) (D : va_G) (B : Nat) (ek : EK) (p1 : Int32) (σ μ ω : Mem) (res : Int32 × Mem) (h : fX6_cancels p1 μ = some res) : CT l cy D B ek yX6_cancels cX6_cancels 4 (some .int) ({ frames := 6, cells := 0, slots := 0, locals := 135 } : Room) [.ref (B + oMd), .int p1] σ μ ω (some (.int res.1)) σ res.2 ω := by
  refine met_X (own := "HostelBedsModel") (by decide) rfl (Nat.le_of_ble_eq_true rfl) ?_
  intro p e s m args below meth c C hrT hlk
  have hret : ∀ (pc9 : Nat) (lcs9 : List (Nat × Value)), decode cX6_cancels pc9 = .ok (.ireturn, 1) → narrow .int (.int res.1) = .int res.1 → X p l e ({ frames := 6, cells := 0, slots := 0, locals := 135 } : Room) s m args below meth c 4 cy D B 0 0 (MQ below (QR cy D B (some (.int res.1)) σ res.2 ω) args s 0 0 (aB B)) pc9 lcs9 [.int res.1] σ res.2 ω := fun _ _ hd hn => x_zret C hrT hlk hn hd
  generalize (MQ below (QR cy D B (some (.int res.1)) σ res.2 ω) args s 0 0 (aB B)) = Q at hret ⊢
  obtain ⟨R, hR9⟩ : ∃ R : Room, R = ({ frames := 6, cells := 0, slots := 0, locals := 135 } : Room) := ⟨_, rfl⟩
  rw [← hR9] at hret ⊢
  unfold fX6_cancels at h
  show X p l e R s m args below meth c 4 cy D B 0 0 Q 0 [(0, .ref (B + oMd)), (1, .int p1)] [] σ μ ω
  refine x_aload_n C dX6_cancels_0 rfl 0 rfl ?_
  refine x_iload_n C dX6_cancels_1 rfl 1 rfl ?_
  refine x_bipush C (v := 8) dX6_cancels_2 (by decide) ?_
  refine x_iconst C (v := 2) dX6_cancels_4 (by decide) ?_
  obtain ⟨q1, hk1, h⟩ := Option.bind_eq_some_iff.mp h
  refine x_callV C (As := [.int p1, .int (8 : Int32), .int (2 : Int32)]) (rest := []) (lw_g_mk tw_1343 rfl) (lw_g_mk tsel_42 rfl) (c_Md) (C1 := "HostelBedsModel") (T := TX6) (N := 27) (ci := 6) rfl (okX6_lay l cy D B ek p1 (8 : Int32) (2 : Int32) σ μ ω _ hk1) rfl rfl (by rw [hR9]; decide) (lw_g_mk tw_1344 rfl) (lw_g_mk tw_7 rfl) (by decide) rfl (lw_g_mk tw_1341 rfl) rfl (Nat.le_of_ble_eq_true rfl) dX6_cancels_5 (by rw [hR9]; decide) ?_
  refine x_iconst C (v := 0) dX6_cancels_8 (by decide) ?_
  refine x_istore_n C [(2, .int (0 : Int32)), (0, .ref (B + oMd)), (1, .int p1)] dX6_cancels_9 rfl (by decide) rfl ?_
  refine x_iconst C (v := 0) dX6_cancels_10 (by decide) ?_
  refine x_istore_n C [(3, .int (0 : Int32)), (2, .int (0 : Int32)), (0, .ref (B + oMd)), (1, .int p1)] dX6_cancels_11 rfl (by decide) rfl ?_
  obtain ⟨b12, hk11, h⟩ := Option.bind_eq_some_iff.mp h
  refine x_sub [2, 3, 1, 0] rfl ?_
  refine loop_run (step := stX6_cancels_12 p1) (P := fun (a12 : Int32 × Int32 × Mem) => X p l e R s m args below meth c 4 cy D B 0 0 Q 12 [(0, .ref (B + oMd)), (1, .int p1), (2, .int a12.1), (3, .int a12.2.1)] [] σ a12.2.2 ω) (K := fun (b12 : Int32 × Mem) => X p l e R s m args below meth c 4 cy D B 0 0 Q 66 [(0, .ref (B + oMd)), (2, .int b12.1)] [] σ b12.2 ω) ?_ 5000 ((0 : Int32), (0 : Int32), q1) b12 hk11 ?_
  · intro a12 r h hA2 hB3
    unfold stX6_cancels_12 at h
    refine x_iload_n C dX6_cancels_12 rfl 3 rfl ?_
    refine x_aload_n C dX6_cancels_13 rfl 0 rfl ?_
    refine x_sipush C (v := 191) dX6_cancels_14 (by decide) ?_
    obtain ⟨q2, hk4, h⟩ := Option.bind_eq_some_iff.mp h
    refine x_callV C (As := [.int (191 : Int32)]) (rest := [.int a12.2.1]) (lw_g_mk tw_1296 rfl) (lw_g_mk tsel_31 rfl) (c_Md) (C1 := "HostelBedsModel") (T := TX6) (N := 27) (ci := 6) rfl (okX6_get l cy D B ek (191 : Int32) σ a12.2.2 ω _ hk4) rfl rfl (by rw [hR9]; decide) (lw_g_mk tw_1297 rfl) (lw_g_mk tw_7 rfl) (by decide) rfl (lw_g_mk tw_1294 rfl) rfl (Nat.le_of_ble_eq_true rfl) dX6_cancels_17 (by rw [hR9]; decide) ?_
    refine x_icmp_ge C (tgt := 66) dX6_cancels_20 (by decide) (fun hc5 => ?_) (fun hc5 => ?_)
    · rw [if_pos hc5] at h
      cases h
      refine x_sub [0, 2] rfl ?_
      exact hB3 (a12.1, a12.2.2) rfl
    · rw [if_neg hc5] at h
      refine x_aload_n C dX6_cancels_23 rfl 0 rfl ?_
      refine x_sipush C (v := 192) dX6_cancels_24 (by decide) ?_
      refine x_iload_n C dX6_cancels_27 rfl 3 rfl ?_
      refine x_iadd C dX6_cancels_28 ?_
      obtain ⟨q3, hk6, h⟩ := Option.bind_eq_some_iff.mp h
      refine x_callV C (As := [.int ((192 : Int32) + a12.2.1)]) (rest := []) (lw_g_mk tw_1296 rfl) (lw_g_mk tsel_31 rfl) (c_Md) (C1 := "HostelBedsModel") (T := TX6) (N := 27) (ci := 6) rfl (okX6_get l cy D B ek ((192 : Int32) + a12.2.1) σ a12.2.2 ω _ hk6) rfl rfl (by rw [hR9]; decide) (lw_g_mk tw_1297 rfl) (lw_g_mk tw_7 rfl) (by decide) rfl (lw_g_mk tw_1294 rfl) rfl (Nat.le_of_ble_eq_true rfl) dX6_cancels_29 (by rw [hR9]; decide) ?_
      refine x_iload_n C dX6_cancels_32 rfl 1 rfl ?_
      have hJ7 : ∀ (x4 : Int32) (μ5 : Mem) (r9 : (Int32 × Int32 × Mem) ⊕ (Int32 × Mem)), jX6_cancels_60 a12 x4 μ5 = some r9 → (∀ a2, r9 = .inl a2 → (fun (a12 : Int32 × Int32 × Mem) => X p l e R s m args below meth c 4 cy D B 0 0 Q 12 [(0, .ref (B + oMd)), (1, .int p1), (2, .int a12.1), (3, .int a12.2.1)] [] σ a12.2.2 ω) a2) → (∀ b2, r9 = .inr b2 → (fun (b12 : Int32 × Mem) => X p l e R s m args below meth c 4 cy D B 0 0 Q 66 [(0, .ref (B + oMd)), (2, .int b12.1)] [] σ b12.2 ω) b2) → X p l e R s m args below meth c 4 cy D B 0 0 Q 60 [(0, .ref (B + oMd)), (1, .int p1), (2, .int x4), (3, .int a12.2.1)] [] σ μ5 ω := by
        intro x4 μ5 r h hA2 hB3
        unfold jX6_cancels_60 at h
        refine x_iinc C (k := 3) [(3, .int (a12.2.1 + (1 : Int32))), (0, .ref (B + oMd)), (1, .int p1), (2, .int x4)] dX6_cancels_60 rfl rfl (by decide) rfl ?_
        refine x_goto C (tgt := 12) dX6_cancels_63 (by decide) ?_
        cases h
        refine x_sub [1, 2, 3, 0] rfl ?_
        exact hA2 (x4, a12.2.1 + (1 : Int32), μ5) rfl
      refine x_icmp_ne C (tgt := 39) dX6_cancels_33 (by decide) (fun hc8 => ?_) (fun hc8 => ?_)
      · rw [if_pos hc8] at h
        refine x_aload_n C dX6_cancels_39 rfl 0 rfl ?_
        refine x_sipush C (v := 192) dX6_cancels_40 (by decide) ?_
        refine x_iload_n C dX6_cancels_43 rfl 2 rfl ?_
        refine x_iadd C dX6_cancels_44 ?_
        refine x_aload_n C dX6_cancels_45 rfl 0 rfl ?_
        refine x_sipush C (v := 192) dX6_cancels_46 (by decide) ?_
        refine x_iload_n C dX6_cancels_49 rfl 3 rfl ?_
        refine x_iadd C dX6_cancels_50 ?_
        obtain ⟨q6, hk9, h⟩ := Option.bind_eq_some_iff.mp h
        refine x_callV C (As := [.int ((192 : Int32) + a12.2.1)]) (rest := [.int ((192 : Int32) + a12.1), .ref (B + oMd)]) (lw_g_mk tw_1296 rfl) (lw_g_mk tsel_31 rfl) (c_Md) (C1 := "HostelBedsModel") (T := TX6) (N := 27) (ci := 6) rfl (okX6_get l cy D B ek ((192 : Int32) + a12.2.1) σ a12.2.2 ω _ hk9) rfl rfl (by rw [hR9]; decide) (lw_g_mk tw_1297 rfl) (lw_g_mk tw_7 rfl) (by decide) rfl (lw_g_mk tw_1294 rfl) rfl (Nat.le_of_ble_eq_true rfl) dX6_cancels_51 (by rw [hR9]; decide) ?_
        obtain ⟨q7, hk10, h⟩ := Option.bind_eq_some_iff.mp h
        refine x_callV C (As := [.int ((192 : Int32) + a12.1), .int q6]) (rest := []) (lw_g_mk tw_1323 rfl) (lw_g_mk tsel_37 rfl) (c_Md) (C1 := "HostelBedsModel") (T := TX6) (N := 27) (ci := 6) rfl (okX6_set l cy D B ek ((192 : Int32) + a12.1) q6 σ a12.2.2 ω _ hk10) rfl rfl (by rw [hR9]; decide) (lw_g_mk tw_1324 rfl) (lw_g_mk tw_7 rfl) (by decide) rfl (lw_g_mk tw_1321 rfl) rfl (Nat.le_of_ble_eq_true rfl) dX6_cancels_54 (by rw [hR9]; decide) ?_
        refine x_iinc C (k := 2) [(2, .int (a12.1 + (1 : Int32))), (0, .ref (B + oMd)), (1, .int p1), (3, .int a12.2.1)] dX6_cancels_57 rfl rfl (by decide) rfl ?_
        refine x_sub [1, 2, 0, 3] rfl ?_
        exact hJ7 (a12.1 + (1 : Int32)) q7 _ h hA2 hB3
      · rw [if_neg hc8] at h
        refine x_goto C (tgt := 60) dX6_cancels_36 (by decide) ?_
        exact hJ7 a12.1 a12.2.2 _ h hA2 hB3
  · show X p l e R s m args below meth c 4 cy D B 0 0 Q 66 [(0, .ref (B + oMd)), (2, .int b12.1)] [] σ b12.2 ω
    refine x_aload_n C dX6_cancels_66 rfl 0 rfl ?_
    refine x_sipush C (v := 191) dX6_cancels_67 (by decide) ?_
    refine x_iload_n C dX6_cancels_70 rfl 1 rfl ?_
    obtain ⟨q8, hk12, h⟩ := Option.bind_eq_some_iff.mp h
    refine x_callV C (As := [.int (191 : Int32), .int b12.1]) (rest := []) (lw_g_mk tw_1323 rfl) (lw_g_mk tsel_37 rfl) (c_Md) (C1 := "HostelBedsModel") (T := TX6) (N := 27) (ci := 6) rfl (okX6_set l cy D B ek (191 : Int32) b12.1 σ b12.2 ω _ hk12) rfl rfl (by rw [hR9]; decide) (lw_g_mk tw_1324 rfl) (lw_g_mk tw_7 rfl) (by decide) rfl (lw_g_mk tw_1321 rfl) rfl (Nat.le_of_ble_eq_true rfl) dX6_cancels_71 (by rw [hR9]; decide) ?_
    refine x_aload_n C dX6_cancels_74 rfl 0 rfl ?_
    obtain ⟨q9, hk13, h⟩ := Option.bind_eq_some_iff.mp h
    refine x_callV C (As := []) (rest := []) (lw_g_mk tw_1395 rfl) (lw_g_mk tsel_55 rfl) (c_Md) (C1 := "HostelBedsModel") (T := TX6) (N := 27) (ci := 6) rfl (okX6_goesThrough l cy D B ek σ q8 ω _ hk13) rfl rfl (by rw [hR9]; decide) (lw_g_mk tw_1396 rfl) (lw_g_mk tw_7 rfl) (by decide) rfl (lw_g_mk tw_1393 rfl) rfl (Nat.le_of_ble_eq_true rfl) dX6_cancels_75 (by rw [hR9]; decide) ?_
    cases h
    exact hret _ _ dX6_cancels_78 rfl
def fX6_readCancel (μ : Mem) : Option (Mem) := ((fX6_readKnown μ).bind fun q1 => ((fX6_isWell q1.2).bind fun q2 => (if q2 = 0 then (some q1.2) else ((fX6_cancels q1.1 q1.2).bind fun q3 => (some q3.2)))))
set_option maxHeartbeats 4000000 in
set_option maxRecDepth 100000 in
theorem okX6_readCancel (l : Launch) (cy : Nat → ClassId) (D : va_G) (B : Nat) (ek : EK) (σ μ ω : Mem) (res : Mem) (h : fX6_readCancel μ = some res) : CT l cy D B ek yX6_readCancel cX6_readCancel 2 none ({ frames := 7, cells := 0, slots := 0, locals := 158 } : Room) [.ref (B + oMd)] σ μ ω none σ res ω := by
  refine met_X (own := "HostelBedsModel") (by decide) rfl (Nat.le_of_ble_eq_true rfl) ?_
  intro p e s m args below meth c C hrT hlk
  have hret : ∀ (pc9 : Nat) (lcs9 : List (Nat × Value)), decode cX6_readCancel pc9 = .ok (.return_, 1) → X p l e ({ frames := 7, cells := 0, slots := 0, locals := 158 } : Room) s m args below meth c 2 cy D B 0 0 (MQ below (QR cy D B none σ res ω) args s 0 0 (aB B)) pc9 lcs9 [] σ res ω := fun _ _ hd => x_vret C hrT hlk hd
  generalize (MQ below (QR cy D B none σ res ω) args s 0 0 (aB B)) = Q at hret ⊢
  obtain ⟨R, hR9⟩ : ∃ R : Room, R = ({ frames := 7, cells := 0, slots := 0, locals := 158 } : Room) := ⟨_, rfl⟩
  rw [← hR9] at hret ⊢
  unfold fX6_readCancel at h
  show X p l e R s m args below meth c 2 cy D B 0 0 Q 0 [(0, .ref (B + oMd))] [] σ μ ω
  refine x_aload_n C dX6_readCancel_0 rfl 0 rfl ?_
  obtain ⟨q1, hk1, h⟩ := Option.bind_eq_some_iff.mp h
  refine x_callV C (As := []) (rest := []) (lw_g_mk tw_1387 rfl) (lw_g_mk tsel_53 rfl) (c_Md) (C1 := "HostelBedsModel") (T := TX6) (N := 27) (ci := 6) rfl (okX6_readKnown l cy D B ek σ μ ω _ hk1) rfl rfl (by rw [hR9]; decide) (lw_g_mk tw_1388 rfl) (lw_g_mk tw_7 rfl) (by decide) rfl (lw_g_mk tw_1385 rfl) rfl (Nat.le_of_ble_eq_true rfl) dX6_readCancel_1 (by rw [hR9]; decide) ?_
  refine x_istore_n C [(1, .int q1.1), (0, .ref (B + oMd))] dX6_readCancel_4 rfl (by decide) rfl ?_
  refine x_aload_n C dX6_readCancel_5 rfl 1 rfl ?_
  obtain ⟨q2, hk2, h⟩ := Option.bind_eq_some_iff.mp h
  refine x_callV C (As := []) (rest := []) (lw_g_mk tw_1273 rfl) (lw_g_mk tsel_27 rfl) (c_Md) (C1 := "HostelBedsModel") (T := TX6) (N := 27) (ci := 6) rfl (okX6_isWell l cy D B ek σ q1.2 ω _ hk2) rfl rfl (by rw [hR9]; decide) (lw_g_mk tw_1274 rfl) (lw_g_mk tw_7 rfl) (by decide) rfl (lw_g_mk tw_1271 rfl) rfl (Nat.le_of_ble_eq_true rfl) dX6_readCancel_6 (by rw [hR9]; decide) ?_
  refine x_if_eq C (tgt := 18) dX6_readCancel_9 (by decide) (fun hc3 => ?_) (fun hc3 => ?_)
  · rw [if_pos hc3] at h
    cases h
    exact hret _ _ dX6_readCancel_18
  · rw [if_neg hc3] at h
    refine x_aload_n C dX6_readCancel_12 rfl 1 rfl ?_
    refine x_iload_n C dX6_readCancel_13 rfl 0 rfl ?_
    obtain ⟨q3, hk4, h⟩ := Option.bind_eq_some_iff.mp h
    refine x_callV C (As := [.int q1.1]) (rest := []) (lw_g_mk tw_1391 rfl) (lw_g_mk tsel_54 rfl) (c_Md) (C1 := "HostelBedsModel") (T := TX6) (N := 27) (ci := 6) rfl (okX6_cancels l cy D B ek q1.1 σ q1.2 ω _ hk4) rfl rfl (by rw [hR9]; decide) (lw_g_mk tw_1392 rfl) (lw_g_mk tw_7 rfl) (by decide) rfl (lw_g_mk tw_1389 rfl) rfl (Nat.le_of_ble_eq_true rfl) dX6_readCancel_14 (by rw [hR9]; decide) ?_
    refine x_pop C dX6_readCancel_17 rfl ?_
    cases h
    exact hret _ _ dX6_readCancel_18
def fX6_readAbsent (μ : Mem) : Option (Mem) := ((fX6_readKnown μ).bind fun q1 => ((fX6_isWell q1.2).bind fun q2 => (if q2 = 0 then (some q1.2) else ((fX6_lay q1.1 (7 : Int32) (1 : Int32) q1.2).bind fun q3 => (some q3)))))
set_option maxHeartbeats 4000000 in
set_option maxRecDepth 100000 in
theorem okX6_readAbsent (l : Launch) (cy : Nat → ClassId) (D : va_G) (B : Nat) (ek : EK) (σ μ ω : Mem) (res : Mem) (h : fX6_readAbsent μ = some res) : CT l cy D B ek yX6_readAbsent cX6_readAbsent 2 none ({ frames := 6, cells := 0, slots := 0, locals := 125 } : Room) [.ref (B + oMd)] σ μ ω none σ res ω := by
  refine met_X (own := "HostelBedsModel") (by decide) rfl (Nat.le_of_ble_eq_true rfl) ?_
  intro p e s m args below meth c C hrT hlk
  have hret : ∀ (pc9 : Nat) (lcs9 : List (Nat × Value)), decode cX6_readAbsent pc9 = .ok (.return_, 1) → X p l e ({ frames := 6, cells := 0, slots := 0, locals := 125 } : Room) s m args below meth c 2 cy D B 0 0 (MQ below (QR cy D B none σ res ω) args s 0 0 (aB B)) pc9 lcs9 [] σ res ω := fun _ _ hd => x_vret C hrT hlk hd
  generalize (MQ below (QR cy D B none σ res ω) args s 0 0 (aB B)) = Q at hret ⊢
  obtain ⟨R, hR9⟩ : ∃ R : Room, R = ({ frames := 6, cells := 0, slots := 0, locals := 125 } : Room) := ⟨_, rfl⟩
  rw [← hR9] at hret ⊢
  unfold fX6_readAbsent at h
  show X p l e R s m args below meth c 2 cy D B 0 0 Q 0 [(0, .ref (B + oMd))] [] σ μ ω
  refine x_aload_n C dX6_readAbsent_0 rfl 0 rfl ?_
  obtain ⟨q1, hk1, h⟩ := Option.bind_eq_some_iff.mp h
  refine x_callV C (As := []) (rest := []) (lw_g_mk tw_1387 rfl) (lw_g_mk tsel_53 rfl) (c_Md) (C1 := "HostelBedsModel") (T := TX6) (N := 27) (ci := 6) rfl (okX6_readKnown l cy D B ek σ μ ω _ hk1) rfl rfl (by rw [hR9]; decide) (lw_g_mk tw_1388 rfl) (lw_g_mk tw_7 rfl) (by decide) rfl (lw_g_mk tw_1385 rfl) rfl (Nat.le_of_ble_eq_true rfl) dX6_readAbsent_1 (by rw [hR9]; decide) ?_
  refine x_istore_n C [(1, .int q1.1), (0, .ref (B + oMd))] dX6_readAbsent_4 rfl (by decide) rfl ?_
  refine x_aload_n C dX6_readAbsent_5 rfl 1 rfl ?_
  obtain ⟨q2, hk2, h⟩ := Option.bind_eq_some_iff.mp h
  refine x_callV C (As := []) (rest := []) (lw_g_mk tw_1273 rfl) (lw_g_mk tsel_27 rfl) (c_Md) (C1 := "HostelBedsModel") (T := TX6) (N := 27) (ci := 6) rfl (okX6_isWell l cy D B ek σ q1.2 ω _ hk2) rfl rfl (by rw [hR9]; decide) (lw_g_mk tw_1274 rfl) (lw_g_mk tw_7 rfl) (by decide) rfl (lw_g_mk tw_1271 rfl) rfl (Nat.le_of_ble_eq_true rfl) dX6_readAbsent_6 (by rw [hR9]; decide) ?_
  refine x_if_eq C (tgt := 20) dX6_readAbsent_9 (by decide) (fun hc3 => ?_) (fun hc3 => ?_)
  · rw [if_pos hc3] at h
    cases h
    exact hret _ _ dX6_readAbsent_20
  · rw [if_neg hc3] at h
    refine x_aload_n C dX6_readAbsent_12 rfl 1 rfl ?_
    refine x_iload_n C dX6_readAbsent_13 rfl 0 rfl ?_
    refine x_bipush C (v := 7) dX6_readAbsent_14 (by decide) ?_
    refine x_iconst C (v := 1) dX6_readAbsent_16 (by decide) ?_
    obtain ⟨q3, hk4, h⟩ := Option.bind_eq_some_iff.mp h
    refine x_callV C (As := [.int q1.1, .int (7 : Int32), .int (1 : Int32)]) (rest := []) (lw_g_mk tw_1343 rfl) (lw_g_mk tsel_42 rfl) (c_Md) (C1 := "HostelBedsModel") (T := TX6) (N := 27) (ci := 6) rfl (okX6_lay l cy D B ek q1.1 (7 : Int32) (1 : Int32) σ q1.2 ω _ hk4) rfl rfl (by rw [hR9]; decide) (lw_g_mk tw_1344 rfl) (lw_g_mk tw_7 rfl) (by decide) rfl (lw_g_mk tw_1341 rfl) rfl (Nat.le_of_ble_eq_true rfl) dX6_readAbsent_17 (by rw [hR9]; decide) ?_
    cases h
    exact hret _ _ dX6_readAbsent_20
def jX6_readStatement_213 (μ3 : Mem) : Option (Mem) := ((fX6_goesOn μ3).bind fun q4 => (some q4))
def fX6_readStatement (μ : Mem) : Option (Mem) := ((fX6_spelled (114 : Int32) (111 : Int32) (111 : Int32) (109 : Int32) (0 : Int32) (0 : Int32) (0 : Int32)).bind fun q1 => ((fX6_isWord q1 μ).bind fun q2 => (if q2 = 0 then ((fX6_spelled (111 : Int32) (118 : Int32) (101 : Int32) (114 : Int32) (0 : Int32) (0 : Int32) (0 : Int32)).bind fun q5 => ((fX6_isWord q5 μ).bind fun q6 => (if q6 = 0 then ((fX6_spelled (119 : Int32) (97 : Int32) (108 : Int32) (107 : Int32) (0 : Int32) (0 : Int32) (0 : Int32)).bind fun q7 => ((fX6_isWord q7 μ).bind fun q8 => (if q8 = 0 then ((fX6_spelled (111 : Int32) (102 : Int32) (102 : Int32) (101 : Int32) (114 : Int32) (0 : Int32) (0 : Int32)).bind fun q9 => ((fX6_isWord q9 μ).bind fun q10 => (if q10 = 0 then ((fX6_spelled (98 : Int32) (111 : Int32) (111 : Int32) (107 : Int32) (0 : Int32) (0 : Int32) (0 : Int32)).bind fun q11 => ((fX6_isWord q11 μ).bind fun q12 => (if q12 = 0 then ((fX6_spelled (99 : Int32) (97 : Int32) (110 : Int32) (99 : Int32) (101 : Int32) (108 : Int32) (0 : Int32)).bind fun q13 => ((fX6_isWord q13 μ).bind fun q14 => (if q14 = 0 then ((fX6_spelled (97 : Int32) (98 : Int32) (115 : Int32) (101 : Int32) (110 : Int32) (116 : Int32) (0 : Int32)).bind fun q15 => ((fX6_isWord q15 μ).bind fun q16 => (if q16 = 0 then ((fX6_must (0 : Int32) μ).bind fun q17 => (jX6_readStatement_213 q17)) else ((fX6_readAbsent μ).bind fun q18 => (jX6_readStatement_213 q18))))) else ((fX6_readCancel μ).bind fun q19 => (jX6_readStatement_213 q19))))) else ((fX6_readBook μ).bind fun q20 => (jX6_readStatement_213 q20))))) else ((fX6_readOffer μ).bind fun q21 => (jX6_readStatement_213 q21))))) else ((fX6_readSetting (1 : Int32) (300 : Int32) μ).bind fun q22 => (jX6_readStatement_213 q22))))) else ((fX6_readSetting (0 : Int32) (50 : Int32) μ).bind fun q23 => (jX6_readStatement_213 q23))))) else ((fX6_readRoom μ).bind fun q24 => (jX6_readStatement_213 q24)))))
set_option maxHeartbeats 4000000 in
set_option maxRecDepth 100000 in
theorem okX6_readStatement (l : Launch) (cy : Nat → ClassId) (D : va_G) (B : Nat) (ek : EK) (σ μ ω : Mem) (res : Mem) (h : fX6_readStatement μ = some res) : CT l cy D B ek yX6_readStatement cX6_readStatement 1 none ({ frames := 8, cells := 0, slots := 0, locals := 179 } : Room) [.ref (B + oMd)] σ μ ω none σ res ω := by
  refine met_X (own := "HostelBedsModel") (by decide) rfl (Nat.le_of_ble_eq_true rfl) ?_
  intro p e s m args below meth c C hrT hlk
  have hret : ∀ (pc9 : Nat) (lcs9 : List (Nat × Value)), decode cX6_readStatement pc9 = .ok (.return_, 1) → X p l e ({ frames := 8, cells := 0, slots := 0, locals := 179 } : Room) s m args below meth c 1 cy D B 0 0 (MQ below (QR cy D B none σ res ω) args s 0 0 (aB B)) pc9 lcs9 [] σ res ω := fun _ _ hd => x_vret C hrT hlk hd
  generalize (MQ below (QR cy D B none σ res ω) args s 0 0 (aB B)) = Q at hret ⊢
  obtain ⟨R, hR9⟩ : ∃ R : Room, R = ({ frames := 8, cells := 0, slots := 0, locals := 179 } : Room) := ⟨_, rfl⟩
  rw [← hR9] at hret ⊢
  unfold fX6_readStatement at h
  show X p l e R s m args below meth c 1 cy D B 0 0 Q 0 [(0, .ref (B + oMd))] [] σ μ ω
  refine x_aload_n C dX6_readStatement_0 rfl 0 rfl ?_
  refine x_bipush C (v := 114) dX6_readStatement_1 (by decide) ?_
  refine x_bipush C (v := 111) dX6_readStatement_3 (by decide) ?_
  refine x_bipush C (v := 111) dX6_readStatement_5 (by decide) ?_
  refine x_bipush C (v := 109) dX6_readStatement_7 (by decide) ?_
  refine x_iconst C (v := 0) dX6_readStatement_9 (by decide) ?_
  refine x_iconst C (v := 0) dX6_readStatement_10 (by decide) ?_
  refine x_iconst C (v := 0) dX6_readStatement_11 (by decide) ?_
  obtain ⟨q1, hk1, h⟩ := Option.bind_eq_some_iff.mp h
  refine x_callS C (As := [.int (114 : Int32), .int (111 : Int32), .int (111 : Int32), .int (109 : Int32), .int (0 : Int32), .int (0 : Int32), .int (0 : Int32)]) (rest := [.ref (B + oMd)]) (lw_g_mk tw_1280 rfl) (okX6_spelled l cy D B ek (114 : Int32) (111 : Int32) (111 : Int32) (109 : Int32) (0 : Int32) (0 : Int32) (0 : Int32) σ μ ω _ hk1) rfl rfl (by rw [hR9]; decide) (lw_g_mk tw_1281 rfl) (lw_g_mk tw_7 rfl) (by decide) rfl (lw_g_mk tw_1279 rfl) rfl (Nat.le_of_ble_eq_true rfl) dX6_readStatement_12 (by rw [hR9]; decide) ?_
  obtain ⟨q2, hk2, h⟩ := Option.bind_eq_some_iff.mp h
  refine x_callV C (As := [.long q1]) (rest := []) (lw_g_mk tw_1288 rfl) (lw_g_mk tsel_29 rfl) (c_Md) (C1 := "HostelBedsModel") (T := TX6) (N := 27) (ci := 6) rfl (okX6_isWord l cy D B ek q1 σ μ ω _ hk2) rfl rfl (by rw [hR9]; decide) (lw_g_mk tw_1289 rfl) (lw_g_mk tw_7 rfl) (by decide) rfl (lw_g_mk tw_1286 rfl) rfl (Nat.le_of_ble_eq_true rfl) dX6_readStatement_15 (by rw [hR9]; decide) ?_
  have hJ4 : ∀ (μ3 : Mem) (r9 : Mem), jX6_readStatement_213 μ3 = some r9 → (∀ (pc9 : Nat) (lcs9 : List (Nat × Value)), decode cX6_readStatement pc9 = .ok (.return_, 1) → X p l e R s m args below meth c 1 cy D B 0 0 Q pc9 lcs9 [] σ r9 ω) → X p l e R s m args below meth c 1 cy D B 0 0 Q 213 [(0, .ref (B + oMd))] [] σ μ3 ω := by
    intro μ3 res9 h hret
    unfold jX6_readStatement_213 at h
    refine x_aload_n C dX6_readStatement_213 rfl 0 rfl ?_
    obtain ⟨q4, hk3, h⟩ := Option.bind_eq_some_iff.mp h
    refine x_callV C (As := []) (rest := []) (lw_g_mk tw_1304 rfl) (lw_g_mk tsel_33 rfl) (c_Md) (C1 := "HostelBedsModel") (T := TX6) (N := 27) (ci := 6) rfl (okX6_goesOn l cy D B ek σ μ3 ω _ hk3) rfl rfl (by rw [hR9]; decide) (lw_g_mk tw_1305 rfl) (lw_g_mk tw_7 rfl) (by decide) rfl (lw_g_mk tw_1302 rfl) rfl (Nat.le_of_ble_eq_true rfl) dX6_readStatement_214 (by rw [hR9]; decide) ?_
    cases h
    exact hret _ _ dX6_readStatement_217
  refine x_if_eq C (tgt := 28) dX6_readStatement_18 (by decide) (fun hc5 => ?_) (fun hc5 => ?_)
  · rw [if_pos hc5] at h
    refine x_aload_n C dX6_readStatement_28 rfl 0 rfl ?_
    refine x_bipush C (v := 111) dX6_readStatement_29 (by decide) ?_
    refine x_bipush C (v := 118) dX6_readStatement_31 (by decide) ?_
    refine x_bipush C (v := 101) dX6_readStatement_33 (by decide) ?_
    refine x_bipush C (v := 114) dX6_readStatement_35 (by decide) ?_
    refine x_iconst C (v := 0) dX6_readStatement_37 (by decide) ?_
    refine x_iconst C (v := 0) dX6_readStatement_38 (by decide) ?_
    refine x_iconst C (v := 0) dX6_readStatement_39 (by decide) ?_
    obtain ⟨q5, hk6, h⟩ := Option.bind_eq_some_iff.mp h
    refine x_callS C (As := [.int (111 : Int32), .int (118 : Int32), .int (101 : Int32), .int (114 : Int32), .int (0 : Int32), .int (0 : Int32), .int (0 : Int32)]) (rest := [.ref (B + oMd)]) (lw_g_mk tw_1280 rfl) (okX6_spelled l cy D B ek (111 : Int32) (118 : Int32) (101 : Int32) (114 : Int32) (0 : Int32) (0 : Int32) (0 : Int32) σ μ ω _ hk6) rfl rfl (by rw [hR9]; decide) (lw_g_mk tw_1281 rfl) (lw_g_mk tw_7 rfl) (by decide) rfl (lw_g_mk tw_1279 rfl) rfl (Nat.le_of_ble_eq_true rfl) dX6_readStatement_40 (by rw [hR9]; decide) ?_
    obtain ⟨q6, hk7, h⟩ := Option.bind_eq_some_iff.mp h
    refine x_callV C (As := [.long q5]) (rest := []) (lw_g_mk tw_1288 rfl) (lw_g_mk tsel_29 rfl) (c_Md) (C1 := "HostelBedsModel") (T := TX6) (N := 27) (ci := 6) rfl (okX6_isWord l cy D B ek q5 σ μ ω _ hk7) rfl rfl (by rw [hR9]; decide) (lw_g_mk tw_1289 rfl) (lw_g_mk tw_7 rfl) (by decide) rfl (lw_g_mk tw_1286 rfl) rfl (Nat.le_of_ble_eq_true rfl) dX6_readStatement_43 (by rw [hR9]; decide) ?_
    refine x_if_eq C (tgt := 59) dX6_readStatement_46 (by decide) (fun hc8 => ?_) (fun hc8 => ?_)
    · rw [if_pos hc8] at h
      refine x_aload_n C dX6_readStatement_59 rfl 0 rfl ?_
      refine x_bipush C (v := 119) dX6_readStatement_60 (by decide) ?_
      refine x_bipush C (v := 97) dX6_readStatement_62 (by decide) ?_
      refine x_bipush C (v := 108) dX6_readStatement_64 (by decide) ?_
      refine x_bipush C (v := 107) dX6_readStatement_66 (by decide) ?_
      refine x_iconst C (v := 0) dX6_readStatement_68 (by decide) ?_
      refine x_iconst C (v := 0) dX6_readStatement_69 (by decide) ?_
      refine x_iconst C (v := 0) dX6_readStatement_70 (by decide) ?_
      obtain ⟨q7, hk9, h⟩ := Option.bind_eq_some_iff.mp h
      refine x_callS C (As := [.int (119 : Int32), .int (97 : Int32), .int (108 : Int32), .int (107 : Int32), .int (0 : Int32), .int (0 : Int32), .int (0 : Int32)]) (rest := [.ref (B + oMd)]) (lw_g_mk tw_1280 rfl) (okX6_spelled l cy D B ek (119 : Int32) (97 : Int32) (108 : Int32) (107 : Int32) (0 : Int32) (0 : Int32) (0 : Int32) σ μ ω _ hk9) rfl rfl (by rw [hR9]; decide) (lw_g_mk tw_1281 rfl) (lw_g_mk tw_7 rfl) (by decide) rfl (lw_g_mk tw_1279 rfl) rfl (Nat.le_of_ble_eq_true rfl) dX6_readStatement_71 (by rw [hR9]; decide) ?_
      obtain ⟨q8, hk10, h⟩ := Option.bind_eq_some_iff.mp h
      refine x_callV C (As := [.long q7]) (rest := []) (lw_g_mk tw_1288 rfl) (lw_g_mk tsel_29 rfl) (c_Md) (C1 := "HostelBedsModel") (T := TX6) (N := 27) (ci := 6) rfl (okX6_isWord l cy D B ek q7 σ μ ω _ hk10) rfl rfl (by rw [hR9]; decide) (lw_g_mk tw_1289 rfl) (lw_g_mk tw_7 rfl) (by decide) rfl (lw_g_mk tw_1286 rfl) rfl (Nat.le_of_ble_eq_true rfl) dX6_readStatement_74 (by rw [hR9]; decide) ?_
      refine x_if_eq C (tgt := 91) dX6_readStatement_77 (by decide) (fun hc11 => ?_) (fun hc11 => ?_)
      · rw [if_pos hc11] at h
        refine x_aload_n C dX6_readStatement_91 rfl 0 rfl ?_
        refine x_bipush C (v := 111) dX6_readStatement_92 (by decide) ?_
        refine x_bipush C (v := 102) dX6_readStatement_94 (by decide) ?_
        refine x_bipush C (v := 102) dX6_readStatement_96 (by decide) ?_
        refine x_bipush C (v := 101) dX6_readStatement_98 (by decide) ?_
        refine x_bipush C (v := 114) dX6_readStatement_100 (by decide) ?_
        refine x_iconst C (v := 0) dX6_readStatement_102 (by decide) ?_
        refine x_iconst C (v := 0) dX6_readStatement_103 (by decide) ?_
        obtain ⟨q9, hk12, h⟩ := Option.bind_eq_some_iff.mp h
        refine x_callS C (As := [.int (111 : Int32), .int (102 : Int32), .int (102 : Int32), .int (101 : Int32), .int (114 : Int32), .int (0 : Int32), .int (0 : Int32)]) (rest := [.ref (B + oMd)]) (lw_g_mk tw_1280 rfl) (okX6_spelled l cy D B ek (111 : Int32) (102 : Int32) (102 : Int32) (101 : Int32) (114 : Int32) (0 : Int32) (0 : Int32) σ μ ω _ hk12) rfl rfl (by rw [hR9]; decide) (lw_g_mk tw_1281 rfl) (lw_g_mk tw_7 rfl) (by decide) rfl (lw_g_mk tw_1279 rfl) rfl (Nat.le_of_ble_eq_true rfl) dX6_readStatement_104 (by rw [hR9]; decide) ?_
        obtain ⟨q10, hk13, h⟩ := Option.bind_eq_some_iff.mp h
        refine x_callV C (As := [.long q9]) (rest := []) (lw_g_mk tw_1288 rfl) (lw_g_mk tsel_29 rfl) (c_Md) (C1 := "HostelBedsModel") (T := TX6) (N := 27) (ci := 6) rfl (okX6_isWord l cy D B ek q9 σ μ ω _ hk13) rfl rfl (by rw [hR9]; decide) (lw_g_mk tw_1289 rfl) (lw_g_mk tw_7 rfl) (by decide) rfl (lw_g_mk tw_1286 rfl) rfl (Nat.le_of_ble_eq_true rfl) dX6_readStatement_107 (by rw [hR9]; decide) ?_
        refine x_if_eq C (tgt := 120) dX6_readStatement_110 (by decide) (fun hc14 => ?_) (fun hc14 => ?_)
        · rw [if_pos hc14] at h
          refine x_aload_n C dX6_readStatement_120 rfl 0 rfl ?_
          refine x_bipush C (v := 98) dX6_readStatement_121 (by decide) ?_
          refine x_bipush C (v := 111) dX6_readStatement_123 (by decide) ?_
          refine x_bipush C (v := 111) dX6_readStatement_125 (by decide) ?_
          refine x_bipush C (v := 107) dX6_readStatement_127 (by decide) ?_
          refine x_iconst C (v := 0) dX6_readStatement_129 (by decide) ?_
          refine x_iconst C (v := 0) dX6_readStatement_130 (by decide) ?_
          refine x_iconst C (v := 0) dX6_readStatement_131 (by decide) ?_
          obtain ⟨q11, hk15, h⟩ := Option.bind_eq_some_iff.mp h
          refine x_callS C (As := [.int (98 : Int32), .int (111 : Int32), .int (111 : Int32), .int (107 : Int32), .int (0 : Int32), .int (0 : Int32), .int (0 : Int32)]) (rest := [.ref (B + oMd)]) (lw_g_mk tw_1280 rfl) (okX6_spelled l cy D B ek (98 : Int32) (111 : Int32) (111 : Int32) (107 : Int32) (0 : Int32) (0 : Int32) (0 : Int32) σ μ ω _ hk15) rfl rfl (by rw [hR9]; decide) (lw_g_mk tw_1281 rfl) (lw_g_mk tw_7 rfl) (by decide) rfl (lw_g_mk tw_1279 rfl) rfl (Nat.le_of_ble_eq_true rfl) dX6_readStatement_132 (by rw [hR9]; decide) ?_
          obtain ⟨q12, hk16, h⟩ := Option.bind_eq_some_iff.mp h
          refine x_callV C (As := [.long q11]) (rest := []) (lw_g_mk tw_1288 rfl) (lw_g_mk tsel_29 rfl) (c_Md) (C1 := "HostelBedsModel") (T := TX6) (N := 27) (ci := 6) rfl (okX6_isWord l cy D B ek q11 σ μ ω _ hk16) rfl rfl (by rw [hR9]; decide) (lw_g_mk tw_1289 rfl) (lw_g_mk tw_7 rfl) (by decide) rfl (lw_g_mk tw_1286 rfl) rfl (Nat.le_of_ble_eq_true rfl) dX6_readStatement_135 (by rw [hR9]; decide) ?_
          refine x_if_eq C (tgt := 148) dX6_readStatement_138 (by decide) (fun hc17 => ?_) (fun hc17 => ?_)
          · rw [if_pos hc17] at h
            refine x_aload_n C dX6_readStatement_148 rfl 0 rfl ?_
            refine x_bipush C (v := 99) dX6_readStatement_149 (by decide) ?_
            refine x_bipush C (v := 97) dX6_readStatement_151 (by decide) ?_
            refine x_bipush C (v := 110) dX6_readStatement_153 (by decide) ?_
            refine x_bipush C (v := 99) dX6_readStatement_155 (by decide) ?_
            refine x_bipush C (v := 101) dX6_readStatement_157 (by decide) ?_
            refine x_bipush C (v := 108) dX6_readStatement_159 (by decide) ?_
            refine x_iconst C (v := 0) dX6_readStatement_161 (by decide) ?_
            obtain ⟨q13, hk18, h⟩ := Option.bind_eq_some_iff.mp h
            refine x_callS C (As := [.int (99 : Int32), .int (97 : Int32), .int (110 : Int32), .int (99 : Int32), .int (101 : Int32), .int (108 : Int32), .int (0 : Int32)]) (rest := [.ref (B + oMd)]) (lw_g_mk tw_1280 rfl) (okX6_spelled l cy D B ek (99 : Int32) (97 : Int32) (110 : Int32) (99 : Int32) (101 : Int32) (108 : Int32) (0 : Int32) σ μ ω _ hk18) rfl rfl (by rw [hR9]; decide) (lw_g_mk tw_1281 rfl) (lw_g_mk tw_7 rfl) (by decide) rfl (lw_g_mk tw_1279 rfl) rfl (Nat.le_of_ble_eq_true rfl) dX6_readStatement_162 (by rw [hR9]; decide) ?_
            obtain ⟨q14, hk19, h⟩ := Option.bind_eq_some_iff.mp h
            refine x_callV C (As := [.long q13]) (rest := []) (lw_g_mk tw_1288 rfl) (lw_g_mk tsel_29 rfl) (c_Md) (C1 := "HostelBedsModel") (T := TX6) (N := 27) (ci := 6) rfl (okX6_isWord l cy D B ek q13 σ μ ω _ hk19) rfl rfl (by rw [hR9]; decide) (lw_g_mk tw_1289 rfl) (lw_g_mk tw_7 rfl) (by decide) rfl (lw_g_mk tw_1286 rfl) rfl (Nat.le_of_ble_eq_true rfl) dX6_readStatement_165 (by rw [hR9]; decide) ?_
            refine x_if_eq C (tgt := 178) dX6_readStatement_168 (by decide) (fun hc20 => ?_) (fun hc20 => ?_)
            · rw [if_pos hc20] at h
              refine x_aload_n C dX6_readStatement_178 rfl 0 rfl ?_
              refine x_bipush C (v := 97) dX6_readStatement_179 (by decide) ?_
              refine x_bipush C (v := 98) dX6_readStatement_181 (by decide) ?_
              refine x_bipush C (v := 115) dX6_readStatement_183 (by decide) ?_
              refine x_bipush C (v := 101) dX6_readStatement_185 (by decide) ?_
              refine x_bipush C (v := 110) dX6_readStatement_187 (by decide) ?_
              refine x_bipush C (v := 116) dX6_readStatement_189 (by decide) ?_
              refine x_iconst C (v := 0) dX6_readStatement_191 (by decide) ?_
              obtain ⟨q15, hk21, h⟩ := Option.bind_eq_some_iff.mp h
              refine x_callS C (As := [.int (97 : Int32), .int (98 : Int32), .int (115 : Int32), .int (101 : Int32), .int (110 : Int32), .int (116 : Int32), .int (0 : Int32)]) (rest := [.ref (B + oMd)]) (lw_g_mk tw_1280 rfl) (okX6_spelled l cy D B ek (97 : Int32) (98 : Int32) (115 : Int32) (101 : Int32) (110 : Int32) (116 : Int32) (0 : Int32) σ μ ω _ hk21) rfl rfl (by rw [hR9]; decide) (lw_g_mk tw_1281 rfl) (lw_g_mk tw_7 rfl) (by decide) rfl (lw_g_mk tw_1279 rfl) rfl (Nat.le_of_ble_eq_true rfl) dX6_readStatement_192 (by rw [hR9]; decide) ?_
              obtain ⟨q16, hk22, h⟩ := Option.bind_eq_some_iff.mp h
              refine x_callV C (As := [.long q15]) (rest := []) (lw_g_mk tw_1288 rfl) (lw_g_mk tsel_29 rfl) (c_Md) (C1 := "HostelBedsModel") (T := TX6) (N := 27) (ci := 6) rfl (okX6_isWord l cy D B ek q15 σ μ ω _ hk22) rfl rfl (by rw [hR9]; decide) (lw_g_mk tw_1289 rfl) (lw_g_mk tw_7 rfl) (by decide) rfl (lw_g_mk tw_1286 rfl) rfl (Nat.le_of_ble_eq_true rfl) dX6_readStatement_195 (by rw [hR9]; decide) ?_
              refine x_if_eq C (tgt := 208) dX6_readStatement_198 (by decide) (fun hc23 => ?_) (fun hc23 => ?_)
              · rw [if_pos hc23] at h
                refine x_aload_n C dX6_readStatement_208 rfl 0 rfl ?_
                refine x_iconst C (v := 0) dX6_readStatement_209 (by decide) ?_
                obtain ⟨q17, hk24, h⟩ := Option.bind_eq_some_iff.mp h
                refine x_callV C (As := [.int (0 : Int32)]) (rest := []) (lw_g_mk tw_1300 rfl) (lw_g_mk tsel_32 rfl) (c_Md) (C1 := "HostelBedsModel") (T := TX6) (N := 27) (ci := 6) rfl (okX6_must l cy D B ek (0 : Int32) σ μ ω _ hk24) rfl rfl (by rw [hR9]; decide) (lw_g_mk tw_1301 rfl) (lw_g_mk tw_7 rfl) (by decide) rfl (lw_g_mk tw_1298 rfl) rfl (Nat.le_of_ble_eq_true rfl) dX6_readStatement_210 (by rw [hR9]; decide) ?_
                exact hJ4 q17 _ h hret
              · rw [if_neg hc23] at h
                refine x_aload_n C dX6_readStatement_201 rfl 0 rfl ?_
                obtain ⟨q18, hk25, h⟩ := Option.bind_eq_some_iff.mp h
                refine x_callV C (As := []) (rest := []) (lw_g_mk tw_1399 rfl) (lw_g_mk tsel_56 rfl) (c_Md) (C1 := "HostelBedsModel") (T := TX6) (N := 27) (ci := 6) rfl (okX6_readAbsent l cy D B ek σ μ ω _ hk25) rfl rfl (by rw [hR9]; decide) (lw_g_mk tw_1400 rfl) (lw_g_mk tw_7 rfl) (by decide) rfl (lw_g_mk tw_1397 rfl) rfl (Nat.le_of_ble_eq_true rfl) dX6_readStatement_202 (by rw [hR9]; decide) ?_
                refine x_goto C (tgt := 213) dX6_readStatement_205 (by decide) ?_
                exact hJ4 q18 _ h hret
            · rw [if_neg hc20] at h
              refine x_aload_n C dX6_readStatement_171 rfl 0 rfl ?_
              obtain ⟨q19, hk26, h⟩ := Option.bind_eq_some_iff.mp h
              refine x_callV C (As := []) (rest := []) (lw_g_mk tw_1383 rfl) (lw_g_mk tsel_52 rfl) (c_Md) (C1 := "HostelBedsModel") (T := TX6) (N := 27) (ci := 6) rfl (okX6_readCancel l cy D B ek σ μ ω _ hk26) rfl rfl (by rw [hR9]; decide) (lw_g_mk tw_1384 rfl) (lw_g_mk tw_7 rfl) (by decide) rfl (lw_g_mk tw_1381 rfl) rfl (Nat.le_of_ble_eq_true rfl) dX6_readStatement_172 (by rw [hR9]; decide) ?_
              refine x_goto C (tgt := 213) dX6_readStatement_175 (by decide) ?_
              exact hJ4 q19 _ h hret
          · rw [if_neg hc17] at h
            refine x_aload_n C dX6_readStatement_141 rfl 0 rfl ?_
            obtain ⟨q20, hk27, h⟩ := Option.bind_eq_some_iff.mp h
            refine x_callV C (As := []) (rest := []) (lw_g_mk tw_1335 rfl) (lw_g_mk tsel_40 rfl) (c_Md) (C1 := "HostelBedsModel") (T := TX6) (N := 27) (ci := 6) rfl (okX6_readBook l cy D B ek σ μ ω _ hk27) rfl rfl (by rw [hR9]; decide) (lw_g_mk tw_1336 rfl) (lw_g_mk tw_7 rfl) (by decide) rfl (lw_g_mk tw_1333 rfl) rfl (Nat.le_of_ble_eq_true rfl) dX6_readStatement_142 (by rw [hR9]; decide) ?_
            refine x_goto C (tgt := 213) dX6_readStatement_145 (by decide) ?_
            exact hJ4 q20 _ h hret
        · rw [if_neg hc14] at h
          refine x_aload_n C dX6_readStatement_113 rfl 0 rfl ?_
          obtain ⟨q21, hk28, h⟩ := Option.bind_eq_some_iff.mp h
          refine x_callV C (As := []) (rest := []) (lw_g_mk tw_1331 rfl) (lw_g_mk tsel_39 rfl) (c_Md) (C1 := "HostelBedsModel") (T := TX6) (N := 27) (ci := 6) rfl (okX6_readOffer l cy D B ek σ μ ω _ hk28) rfl rfl (by rw [hR9]; decide) (lw_g_mk tw_1332 rfl) (lw_g_mk tw_7 rfl) (by decide) rfl (lw_g_mk tw_1329 rfl) rfl (Nat.le_of_ble_eq_true rfl) dX6_readStatement_114 (by rw [hR9]; decide) ?_
          refine x_goto C (tgt := 213) dX6_readStatement_117 (by decide) ?_
          exact hJ4 q21 _ h hret
      · rw [if_neg hc11] at h
        refine x_aload_n C dX6_readStatement_80 rfl 0 rfl ?_
        refine x_iconst C (v := 1) dX6_readStatement_81 (by decide) ?_
        refine x_sipush C (v := 300) dX6_readStatement_82 (by decide) ?_
        obtain ⟨q22, hk29, h⟩ := Option.bind_eq_some_iff.mp h
        refine x_callV C (As := [.int (1 : Int32), .int (300 : Int32)]) (rest := []) (lw_g_mk tw_1327 rfl) (lw_g_mk tsel_38 rfl) (c_Md) (C1 := "HostelBedsModel") (T := TX6) (N := 27) (ci := 6) rfl (okX6_readSetting l cy D B ek (1 : Int32) (300 : Int32) σ μ ω _ hk29) rfl rfl (by rw [hR9]; decide) (lw_g_mk tw_1328 rfl) (lw_g_mk tw_7 rfl) (by decide) rfl (lw_g_mk tw_1325 rfl) rfl (Nat.le_of_ble_eq_true rfl) dX6_readStatement_85 (by rw [hR9]; decide) ?_
        refine x_goto C (tgt := 213) dX6_readStatement_88 (by decide) ?_
        exact hJ4 q22 _ h hret
    · rw [if_neg hc8] at h
      refine x_aload_n C dX6_readStatement_49 rfl 0 rfl ?_
      refine x_iconst C (v := 0) dX6_readStatement_50 (by decide) ?_
      refine x_bipush C (v := 50) dX6_readStatement_51 (by decide) ?_
      obtain ⟨q23, hk30, h⟩ := Option.bind_eq_some_iff.mp h
      refine x_callV C (As := [.int (0 : Int32), .int (50 : Int32)]) (rest := []) (lw_g_mk tw_1327 rfl) (lw_g_mk tsel_38 rfl) (c_Md) (C1 := "HostelBedsModel") (T := TX6) (N := 27) (ci := 6) rfl (okX6_readSetting l cy D B ek (0 : Int32) (50 : Int32) σ μ ω _ hk30) rfl rfl (by rw [hR9]; decide) (lw_g_mk tw_1328 rfl) (lw_g_mk tw_7 rfl) (by decide) rfl (lw_g_mk tw_1325 rfl) rfl (Nat.le_of_ble_eq_true rfl) dX6_readStatement_53 (by rw [hR9]; decide) ?_
      refine x_goto C (tgt := 213) dX6_readStatement_56 (by decide) ?_
      exact hJ4 q23 _ h hret
  · rw [if_neg hc5] at h
    refine x_aload_n C dX6_readStatement_21 rfl 0 rfl ?_
    obtain ⟨q24, hk31, h⟩ := Option.bind_eq_some_iff.mp h
    refine x_callV C (As := []) (rest := []) (lw_g_mk tw_1292 rfl) (lw_g_mk tsel_30 rfl) (c_Md) (C1 := "HostelBedsModel") (T := TX6) (N := 27) (ci := 6) rfl (okX6_readRoom l cy D B ek σ μ ω _ hk31) rfl rfl (by rw [hR9]; decide) (lw_g_mk tw_1293 rfl) (lw_g_mk tw_7 rfl) (by decide) rfl (lw_g_mk tw_1290 rfl) rfl (Nat.le_of_ble_eq_true rfl) dX6_readStatement_22 (by rw [hR9]; decide) ?_
    refine x_goto C (tgt := 213) dX6_readStatement_25 (by decide) ?_
    exact hJ4 q24 _ h hret
def stX6_load_43 (a43 : Mem) : Option ((Mem) ⊕ (Mem)) := ((fX6_isWell a43).bind fun q3 => (if q3 = 0 then (some (.inr a43)) else (if (rI a43 73 0 0) = 0 then (some (.inr a43)) else ((fX6_readStatement a43).bind fun q4 => (some (.inl q4))))))
def fX6_load (μ : Mem) : Option (Int32 × Mem) := ((fX6_beginReading (wI (wI (wI (wI (wI μ 60 0 0 (0 : Int32)) 70 0 0 (rI (wI μ 60 0 0 (0 : Int32)) 66 0 0)) 66 0 0 (0 : Int32)) 71 0 0 (0 : Int32)) 75 0 0 (-1 : Int32))).bind fun q1 => ((fX6_readToken (wI q1 62 0 0 (208 : Int32))).bind fun q2 => ((loop (stX6_load_43) 5000 (q2)).bind fun b43 => ((fX6_isWell (wI (wI b43 62 0 0 (0 : Int32)) 67 0 0 (rI (wI b43 62 0 0 (0 : Int32)) 75 0 0))).bind fun q5 => (if ¬ q5 = 0 then ((fX6_keepReading (wI (wI b43 62 0 0 (0 : Int32)) 67 0 0 (rI (wI b43 62 0 0 (0 : Int32)) 75 0 0))).bind fun q6 => ((fX6_get (37 : Int32) q6).bind fun q7 => (some (q7, q6)))) else ((fX6_fails (1 : Int32) (wI (wI b43 62 0 0 (0 : Int32)) 67 0 0 (rI (wI b43 62 0 0 (0 : Int32)) 75 0 0))).bind fun q8 => (some (q8.1, q8.2))))))))
set_option maxHeartbeats 4000000 in
set_option maxRecDepth 100000 in
theorem okX6_load (l : Launch) (cy : Nat → ClassId) (D : va_G) (B : Nat) (ek : EK) (σ μ ω : Mem) (res : Int32 × Mem) (h : fX6_load μ = some res) : CT l cy D B ek yX6_load cX6_load 1 (some .int) ({ frames := 9, cells := 0, slots := 0, locals := 199 } : Room) [.ref (B + oMd)] σ μ ω (some (.int res.1)) σ res.2 ω := by
  refine met_X (own := "HostelBedsModel") (by decide) rfl (Nat.le_of_ble_eq_true rfl) ?_
  intro p e s m args below meth c C hrT hlk
  have hret : ∀ (pc9 : Nat) (lcs9 : List (Nat × Value)), decode cX6_load pc9 = .ok (.ireturn, 1) → narrow .int (.int res.1) = .int res.1 → X p l e ({ frames := 9, cells := 0, slots := 0, locals := 199 } : Room) s m args below meth c 1 cy D B 0 0 (MQ below (QR cy D B (some (.int res.1)) σ res.2 ω) args s 0 0 (aB B)) pc9 lcs9 [.int res.1] σ res.2 ω := fun _ _ hd hn => x_zret C hrT hlk hn hd
  generalize (MQ below (QR cy D B (some (.int res.1)) σ res.2 ω) args s 0 0 (aB B)) = Q at hret ⊢
  obtain ⟨R, hR9⟩ : ∃ R : Room, R = ({ frames := 9, cells := 0, slots := 0, locals := 199 } : Room) := ⟨_, rfl⟩
  rw [← hR9] at hret ⊢
  unfold fX6_load at h
  show X p l e R s m args below meth c 1 cy D B 0 0 Q 0 [(0, .ref (B + oMd))] [] σ μ ω
  refine x_aload_n C dX6_load_0 rfl 0 rfl ?_
  refine x_iconst C (v := 0) dX6_load_1 (by decide) ?_
  refine x_put C (C1 := "HostelBedsModel") (T := TX6) (N := 27) (ci := 6) inXg6 tyX6 tyX6_ok nmX6 _ (c_Md) rfl 0 (by decide) (lw_g_mk tw_1131 rfl) rfl rfl rfl rfl (Nat.le_of_ble_eq_true rfl) dX6_load_2 (s_Md_thrown) ?_
  refine x_aload_n C dX6_load_5 rfl 0 rfl ?_
  refine x_aload_n C dX6_load_6 rfl 0 rfl ?_
  refine x_get C (C1 := "HostelBedsModel") (T := TX6) (N := 27) (ci := 6) inXg6 _ (c_Md) rfl 10 (by decide) (lw_g_mk tw_1141 rfl) rfl dX6_load_7 ?_
  refine x_put C (C1 := "HostelBedsModel") (T := TX6) (N := 27) (ci := 6) inXg6 tyX6 tyX6_ok nmX6 _ (c_Md) rfl 14 (by decide) (lw_g_mk tw_1145 rfl) rfl rfl rfl rfl (Nat.le_of_ble_eq_true rfl) dX6_load_10 (s_Md_textLength) ?_
  refine x_aload_n C dX6_load_13 rfl 0 rfl ?_
  refine x_iconst C (v := 0) dX6_load_14 (by decide) ?_
  refine x_put C (C1 := "HostelBedsModel") (T := TX6) (N := 27) (ci := 6) inXg6 tyX6 tyX6_ok nmX6 _ (c_Md) rfl 10 (by decide) (lw_g_mk tw_1141 rfl) rfl rfl rfl rfl (Nat.le_of_ble_eq_true rfl) dX6_load_15 (s_Md_buffered) ?_
  refine x_aload_n C dX6_load_18 rfl 0 rfl ?_
  refine x_iconst C (v := 0) dX6_load_19 (by decide) ?_
  refine x_put C (C1 := "HostelBedsModel") (T := TX6) (N := 27) (ci := 6) inXg6 tyX6 tyX6_ok nmX6 _ (c_Md) rfl 15 (by decide) (lw_g_mk tw_1146 rfl) rfl rfl rfl rfl (Nat.le_of_ble_eq_true rfl) dX6_load_20 (s_Md_next) ?_
  refine x_aload_n C dX6_load_23 rfl 0 rfl ?_
  refine x_iconst C (v := -1) dX6_load_24 (by decide) ?_
  refine x_put C (C1 := "HostelBedsModel") (T := TX6) (N := 27) (ci := 6) inXg6 tyX6 tyX6_ok nmX6 _ (c_Md) rfl 20 (by decide) (lw_g_mk tw_1151 rfl) rfl rfl rfl rfl (Nat.le_of_ble_eq_true rfl) dX6_load_25 (s_Md_wrongAt) ?_
  refine x_aload_n C dX6_load_28 rfl 0 rfl ?_
  obtain ⟨q1, hk1, h⟩ := Option.bind_eq_some_iff.mp h
  refine x_callV C (As := []) (rest := []) (lw_g_mk tw_1121 rfl) (lw_g_mk tsel_15 rfl) (c_Md) (C1 := "HostelBedsModel") (T := TX6) (N := 27) (ci := 6) rfl (okX6_beginReading l cy D B ek σ (wI (wI (wI (wI (wI μ 60 0 0 (0 : Int32)) 70 0 0 (rI (wI μ 60 0 0 (0 : Int32)) 66 0 0)) 66 0 0 (0 : Int32)) 71 0 0 (0 : Int32)) 75 0 0 (-1 : Int32)) ω _ hk1) rfl rfl (by rw [hR9]; decide) (lw_g_mk tw_1122 rfl) (lw_g_mk tw_7 rfl) (by decide) rfl (lw_g_mk tw_1119 rfl) rfl (Nat.le_of_ble_eq_true rfl) dX6_load_29 (by rw [hR9]; decide) ?_
  refine x_aload_n C dX6_load_32 rfl 0 rfl ?_
  refine x_sipush C (v := 208) dX6_load_33 (by decide) ?_
  refine x_put C (C1 := "HostelBedsModel") (T := TX6) (N := 27) (ci := 6) inXg6 tyX6 tyX6_ok nmX6 _ (c_Md) rfl 2 (by decide) (lw_g_mk tw_1133 rfl) rfl rfl rfl rfl (Nat.le_of_ble_eq_true rfl) dX6_load_36 (s_Md_at) ?_
  refine x_aload_n C dX6_load_39 rfl 0 rfl ?_
  obtain ⟨q2, hk2, h⟩ := Option.bind_eq_some_iff.mp h
  refine x_callV C (As := []) (rest := []) (lw_g_mk tw_1243 rfl) (lw_g_mk tsel_20 rfl) (c_Md) (C1 := "HostelBedsModel") (T := TX6) (N := 27) (ci := 6) rfl (okX6_readToken l cy D B ek σ (wI q1 62 0 0 (208 : Int32)) ω _ hk2) rfl rfl (by rw [hR9]; decide) (lw_g_mk tw_1244 rfl) (lw_g_mk tw_7 rfl) (by decide) rfl (lw_g_mk tw_1241 rfl) rfl (Nat.le_of_ble_eq_true rfl) dX6_load_40 (by rw [hR9]; decide) ?_
  obtain ⟨b43, hk9, h⟩ := Option.bind_eq_some_iff.mp h
  refine loop_run (step := stX6_load_43) (P := fun (a43 : Mem) => X p l e R s m args below meth c 1 cy D B 0 0 Q 43 [(0, .ref (B + oMd))] [] σ a43 ω) (K := fun (b43 : Mem) => X p l e R s m args below meth c 1 cy D B 0 0 Q 64 [(0, .ref (B + oMd))] [] σ b43 ω) ?_ 5000 (q2) b43 hk9 ?_
  · intro a43 r h hA3 hB4
    unfold stX6_load_43 at h
    refine x_aload_n C dX6_load_43 rfl 0 rfl ?_
    obtain ⟨q3, hk5, h⟩ := Option.bind_eq_some_iff.mp h
    refine x_callV C (As := []) (rest := []) (lw_g_mk tw_1273 rfl) (lw_g_mk tsel_27 rfl) (c_Md) (C1 := "HostelBedsModel") (T := TX6) (N := 27) (ci := 6) rfl (okX6_isWell l cy D B ek σ a43 ω _ hk5) rfl rfl (by rw [hR9]; decide) (lw_g_mk tw_1274 rfl) (lw_g_mk tw_7 rfl) (by decide) rfl (lw_g_mk tw_1271 rfl) rfl (Nat.le_of_ble_eq_true rfl) dX6_load_44 (by rw [hR9]; decide) ?_
    refine x_if_eq C (tgt := 64) dX6_load_47 (by decide) (fun hc6 => ?_) (fun hc6 => ?_)
    · rw [if_pos hc6] at h
      cases h
      exact hB4 a43 rfl
    · rw [if_neg hc6] at h
      refine x_aload_n C dX6_load_50 rfl 0 rfl ?_
      refine x_get C (C1 := "HostelBedsModel") (T := TX6) (N := 27) (ci := 6) inXg6 _ (c_Md) rfl 17 (by decide) (lw_g_mk tw_1148 rfl) rfl dX6_load_51 ?_
      refine x_if_eq C (tgt := 64) dX6_load_54 (by decide) (fun hc7 => ?_) (fun hc7 => ?_)
      · rw [if_pos hc7] at h
        cases h
        exact hB4 a43 rfl
      · rw [if_neg hc7] at h
        refine x_aload_n C dX6_load_57 rfl 0 rfl ?_
        obtain ⟨q4, hk8, h⟩ := Option.bind_eq_some_iff.mp h
        refine x_callV C (As := []) (rest := []) (lw_g_mk tw_1277 rfl) (lw_g_mk tsel_28 rfl) (c_Md) (C1 := "HostelBedsModel") (T := TX6) (N := 27) (ci := 6) rfl (okX6_readStatement l cy D B ek σ a43 ω _ hk8) rfl rfl (by rw [hR9]; decide) (lw_g_mk tw_1278 rfl) (lw_g_mk tw_7 rfl) (by decide) rfl (lw_g_mk tw_1275 rfl) rfl (Nat.le_of_ble_eq_true rfl) dX6_load_58 (by rw [hR9]; decide) ?_
        refine x_goto C (tgt := 43) dX6_load_61 (by decide) ?_
        cases h
        exact hA3 (q4) rfl
  · show X p l e R s m args below meth c 1 cy D B 0 0 Q 64 [(0, .ref (B + oMd))] [] σ b43 ω
    refine x_aload_n C dX6_load_64 rfl 0 rfl ?_
    refine x_iconst C (v := 0) dX6_load_65 (by decide) ?_
    refine x_put C (C1 := "HostelBedsModel") (T := TX6) (N := 27) (ci := 6) inXg6 tyX6 tyX6_ok nmX6 _ (c_Md) rfl 2 (by decide) (lw_g_mk tw_1133 rfl) rfl rfl rfl rfl (Nat.le_of_ble_eq_true rfl) dX6_load_66 (s_Md_at) ?_
    refine x_aload_n C dX6_load_69 rfl 0 rfl ?_
    refine x_aload_n C dX6_load_70 rfl 0 rfl ?_
    refine x_get C (C1 := "HostelBedsModel") (T := TX6) (N := 27) (ci := 6) inXg6 _ (c_Md) rfl 20 (by decide) (lw_g_mk tw_1151 rfl) rfl dX6_load_71 ?_
    refine x_put C (C1 := "HostelBedsModel") (T := TX6) (N := 27) (ci := 6) inXg6 tyX6 tyX6_ok nmX6 _ (c_Md) rfl 11 (by decide) (lw_g_mk tw_1142 rfl) rfl rfl rfl rfl (Nat.le_of_ble_eq_true rfl) dX6_load_74 (s_Md_errorOffset) ?_
    refine x_aload_n C dX6_load_77 rfl 0 rfl ?_
    obtain ⟨q5, hk10, h⟩ := Option.bind_eq_some_iff.mp h
    refine x_callV C (As := []) (rest := []) (lw_g_mk tw_1273 rfl) (lw_g_mk tsel_27 rfl) (c_Md) (C1 := "HostelBedsModel") (T := TX6) (N := 27) (ci := 6) rfl (okX6_isWell l cy D B ek σ (wI (wI b43 62 0 0 (0 : Int32)) 67 0 0 (rI (wI b43 62 0 0 (0 : Int32)) 75 0 0)) ω _ hk10) rfl rfl (by rw [hR9]; decide) (lw_g_mk tw_1274 rfl) (lw_g_mk tw_7 rfl) (by decide) rfl (lw_g_mk tw_1271 rfl) rfl (Nat.le_of_ble_eq_true rfl) dX6_load_78 (by rw [hR9]; decide) ?_
    refine x_if_ne C (tgt := 90) dX6_load_81 (by decide) (fun hc11 => ?_) (fun hc11 => ?_)
    · rw [if_pos hc11] at h
      refine x_aload_n C dX6_load_90 rfl 0 rfl ?_
      obtain ⟨q6, hk12, h⟩ := Option.bind_eq_some_iff.mp h
      refine x_callV C (As := []) (rest := []) (lw_g_mk tw_1125 rfl) (lw_g_mk tsel_16 rfl) (c_Md) (C1 := "HostelBedsModel") (T := TX6) (N := 27) (ci := 6) rfl (okX6_keepReading l cy D B ek σ (wI (wI b43 62 0 0 (0 : Int32)) 67 0 0 (rI (wI b43 62 0 0 (0 : Int32)) 75 0 0)) ω _ hk12) rfl rfl (by rw [hR9]; decide) (lw_g_mk tw_1126 rfl) (lw_g_mk tw_7 rfl) (by decide) rfl (lw_g_mk tw_1123 rfl) rfl (Nat.le_of_ble_eq_true rfl) dX6_load_91 (by rw [hR9]; decide) ?_
      refine x_aload_n C dX6_load_94 rfl 0 rfl ?_
      refine x_bipush C (v := 37) dX6_load_95 (by decide) ?_
      obtain ⟨q7, hk13, h⟩ := Option.bind_eq_some_iff.mp h
      refine x_callV C (As := [.int (37 : Int32)]) (rest := []) (lw_g_mk tw_1296 rfl) (lw_g_mk tsel_31 rfl) (c_Md) (C1 := "HostelBedsModel") (T := TX6) (N := 27) (ci := 6) rfl (okX6_get l cy D B ek (37 : Int32) σ q6 ω _ hk13) rfl rfl (by rw [hR9]; decide) (lw_g_mk tw_1297 rfl) (lw_g_mk tw_7 rfl) (by decide) rfl (lw_g_mk tw_1294 rfl) rfl (Nat.le_of_ble_eq_true rfl) dX6_load_97 (by rw [hR9]; decide) ?_
      cases h
      exact hret _ _ dX6_load_100 rfl
    · rw [if_neg hc11] at h
      refine x_aload_n C dX6_load_84 rfl 0 rfl ?_
      refine x_iconst C (v := 1) dX6_load_85 (by decide) ?_
      obtain ⟨q8, hk14, h⟩ := Option.bind_eq_some_iff.mp h
      refine x_callV C (As := [.int (1 : Int32)]) (rest := []) (lw_g_mk tw_1224 rfl) (lw_g_mk tsel_18 rfl) (c_Md) (C1 := "HostelBedsModel") (T := TX6) (N := 27) (ci := 6) rfl (okX6_fails l cy D B ek (1 : Int32) σ (wI (wI b43 62 0 0 (0 : Int32)) 67 0 0 (rI (wI b43 62 0 0 (0 : Int32)) 75 0 0)) ω _ hk14) rfl rfl (by rw [hR9]; decide) (lw_g_mk tw_1225 rfl) (lw_g_mk tw_7 rfl) (by decide) rfl (lw_g_mk tw_1222 rfl) rfl (Nat.le_of_ble_eq_true rfl) dX6_load_86 (by rw [hR9]; decide) ?_
      cases h
      exact hret _ _ dX6_load_89 rfl
def fX6_errorOffset (μ : Mem) : Option (Int32 × Mem) := (some (rI (wI μ 60 0 0 (0 : Int32)) 67 0 0, wI μ 60 0 0 (0 : Int32)))
set_option maxHeartbeats 4000000 in
set_option maxRecDepth 100000 in
theorem okX6_errorOffset (l : Launch) (cy : Nat → ClassId) (D : va_G) (B : Nat) (ek : EK) (σ μ ω : Mem) (res : Int32 × Mem) (h : fX6_errorOffset μ = some res) : CT l cy D B ek yX6_errorOffset cX6_errorOffset 1 (some .int) ({ frames := 0, cells := 0, slots := 0, locals := 0 } : Room) [.ref (B + oMd)] σ μ ω (some (.int res.1)) σ res.2 ω := by
  refine met_X (own := "HostelBedsModel") (by decide) rfl (Nat.le_of_ble_eq_true rfl) ?_
  intro p e s m args below meth c C hrT hlk
  have hret : ∀ (pc9 : Nat) (lcs9 : List (Nat × Value)), decode cX6_errorOffset pc9 = .ok (.ireturn, 1) → narrow .int (.int res.1) = .int res.1 → X p l e ({ frames := 0, cells := 0, slots := 0, locals := 0 } : Room) s m args below meth c 1 cy D B 0 0 (MQ below (QR cy D B (some (.int res.1)) σ res.2 ω) args s 0 0 (aB B)) pc9 lcs9 [.int res.1] σ res.2 ω := fun _ _ hd hn => x_zret C hrT hlk hn hd
  generalize (MQ below (QR cy D B (some (.int res.1)) σ res.2 ω) args s 0 0 (aB B)) = Q at hret ⊢
  obtain ⟨R, hR9⟩ : ∃ R : Room, R = ({ frames := 0, cells := 0, slots := 0, locals := 0 } : Room) := ⟨_, rfl⟩
  rw [← hR9] at hret ⊢
  unfold fX6_errorOffset at h
  show X p l e R s m args below meth c 1 cy D B 0 0 Q 0 [(0, .ref (B + oMd))] [] σ μ ω
  refine x_aload_n C dX6_errorOffset_0 rfl 0 rfl ?_
  refine x_iconst C (v := 0) dX6_errorOffset_1 (by decide) ?_
  refine x_put C (C1 := "HostelBedsModel") (T := TX6) (N := 27) (ci := 6) inXg6 tyX6 tyX6_ok nmX6 _ (c_Md) rfl 0 (by decide) (lw_g_mk tw_1131 rfl) rfl rfl rfl rfl (Nat.le_of_ble_eq_true rfl) dX6_errorOffset_2 (s_Md_thrown) ?_
  refine x_aload_n C dX6_errorOffset_5 rfl 0 rfl ?_
  refine x_get C (C1 := "HostelBedsModel") (T := TX6) (N := 27) (ci := 6) inXg6 _ (c_Md) rfl 11 (by decide) (lw_g_mk tw_1142 rfl) rfl dX6_errorOffset_6 ?_
  cases h
  exact hret _ _ dX6_errorOffset_9 rfl
def jX6_inState_31 (a4 : Int32 × Int32) (t3 : Int32) : Option ((Int32 × Int32) ⊕ (Int32)) := (some (.inl (a4.1 + t3, a4.2 + (1 : Int32))))
def stX6_inState_4 (μ : Mem) (p1 : Int32) (a4 : Int32 × Int32) : Option ((Int32 × Int32) ⊕ (Int32)) := ((fX6_get (37 : Int32) μ).bind fun q1 => (if q1 ≤ a4.2 then (some (.inr a4.1)) else ((fX6_of a4.2 (8 : Int32) μ).bind fun q2 => (if ¬ q2 = p1 then (jX6_inState_31 a4 (0 : Int32)) else (jX6_inState_31 a4 (1 : Int32))))))
def fX6_inState (p1 : Int32) (μ : Mem) : Option (Int32) := ((loop (stX6_inState_4 μ p1) 5000 ((0 : Int32), (0 : Int32))).bind fun b4 => (some b4))
set_option maxHeartbeats 4000000 in
set_option maxRecDepth 100000 in
theorem okX6_inState (l : Launch) (cy : Nat → ClassId) (D : va_G) (B : Nat) (ek : EK) (p1 : Int32) (σ μ ω : Mem) (res : Int32) (h : fX6_inState p1 μ = some res) : CT l cy D B ek yX6_inState cX6_inState 4 (some .int) ({ frames := 2, cells := 0, slots := 0, locals := 43 } : Room) [.ref (B + oMd), .int p1] σ μ ω (some (.int res)) σ μ ω := by
  refine met_X (own := "HostelBedsModel") (by decide) rfl (Nat.le_of_ble_eq_true rfl) ?_
  intro p e s m args below meth c C hrT hlk
  have hret : ∀ (pc9 : Nat) (lcs9 : List (Nat × Value)), decode cX6_inState pc9 = .ok (.ireturn, 1) → narrow .int (.int res) = .int res → X p l e ({ frames := 2, cells := 0, slots := 0, locals := 43 } : Room) s m args below meth c 4 cy D B 0 0 (MQ below (QR cy D B (some (.int res)) σ μ ω) args s 0 0 (aB B)) pc9 lcs9 [.int res] σ μ ω := fun _ _ hd hn => x_zret C hrT hlk hn hd
  generalize (MQ below (QR cy D B (some (.int res)) σ μ ω) args s 0 0 (aB B)) = Q at hret ⊢
  obtain ⟨R, hR9⟩ : ∃ R : Room, R = ({ frames := 2, cells := 0, slots := 0, locals := 43 } : Room) := ⟨_, rfl⟩
  rw [← hR9] at hret ⊢
  unfold fX6_inState at h
  show X p l e R s m args below meth c 4 cy D B 0 0 Q 0 [(0, .ref (B + oMd)), (1, .int p1)] [] σ μ ω
  refine x_iconst C (v := 0) dX6_inState_0 (by decide) ?_
  refine x_istore_n C [(2, .int (0 : Int32)), (0, .ref (B + oMd)), (1, .int p1)] dX6_inState_1 rfl (by decide) rfl ?_
  refine x_iconst C (v := 0) dX6_inState_2 (by decide) ?_
  refine x_istore_n C [(3, .int (0 : Int32)), (2, .int (0 : Int32)), (0, .ref (B + oMd)), (1, .int p1)] dX6_inState_3 rfl (by decide) rfl ?_
  obtain ⟨b4, hk8, h⟩ := Option.bind_eq_some_iff.mp h
  refine x_sub [2, 3, 1, 0] rfl ?_
  refine loop_run (step := stX6_inState_4 μ p1) (P := fun (a4 : Int32 × Int32) => X p l e R s m args below meth c 4 cy D B 0 0 Q 4 [(0, .ref (B + oMd)), (1, .int p1), (2, .int a4.1), (3, .int a4.2)] [] σ μ ω) (K := fun (b4 : Int32) => X p l e R s m args below meth c 4 cy D B 0 0 Q 39 [(2, .int b4)] [] σ μ ω) ?_ 5000 ((0 : Int32), (0 : Int32)) b4 hk8 ?_
  · intro a4 r h hA1 hB2
    unfold stX6_inState_4 at h
    refine x_iload_n C dX6_inState_4 rfl 3 rfl ?_
    refine x_aload_n C dX6_inState_5 rfl 0 rfl ?_
    refine x_bipush C (v := 37) dX6_inState_6 (by decide) ?_
    obtain ⟨q1, hk3, h⟩ := Option.bind_eq_some_iff.mp h
    refine x_callV C (As := [.int (37 : Int32)]) (rest := [.int a4.2]) (lw_g_mk tw_1296 rfl) (lw_g_mk tsel_31 rfl) (c_Md) (C1 := "HostelBedsModel") (T := TX6) (N := 27) (ci := 6) rfl (okX6_get l cy D B ek (37 : Int32) σ μ ω _ hk3) rfl rfl (by rw [hR9]; decide) (lw_g_mk tw_1297 rfl) (lw_g_mk tw_7 rfl) (by decide) rfl (lw_g_mk tw_1294 rfl) rfl (Nat.le_of_ble_eq_true rfl) dX6_inState_8 (by rw [hR9]; decide) ?_
    refine x_icmp_ge C (tgt := 39) dX6_inState_11 (by decide) (fun hc4 => ?_) (fun hc4 => ?_)
    · rw [if_pos hc4] at h
      cases h
      refine x_sub [2] rfl ?_
      exact hB2 a4.1 rfl
    · rw [if_neg hc4] at h
      refine x_iload_n C dX6_inState_14 rfl 2 rfl ?_
      refine x_aload_n C dX6_inState_15 rfl 0 rfl ?_
      refine x_iload_n C dX6_inState_16 rfl 3 rfl ?_
      refine x_bipush C (v := 8) dX6_inState_17 (by decide) ?_
      obtain ⟨q2, hk5, h⟩ := Option.bind_eq_some_iff.mp h
      refine x_callV C (As := [.int a4.2, .int (8 : Int32)]) (rest := [.int a4.1]) (lw_g_mk tw_1367 rfl) (lw_g_mk tsel_48 rfl) (c_Md) (C1 := "HostelBedsModel") (T := TX6) (N := 27) (ci := 6) rfl (okX6_of l cy D B ek a4.2 (8 : Int32) σ μ ω _ hk5) rfl rfl (by rw [hR9]; decide) (lw_g_mk tw_1368 rfl) (lw_g_mk tw_7 rfl) (by decide) rfl (lw_g_mk tw_1365 rfl) rfl (Nat.le_of_ble_eq_true rfl) dX6_inState_19 (by rw [hR9]; decide) ?_
      refine x_iload_n C dX6_inState_22 rfl 1 rfl ?_
      have hJ6 : ∀ (t3 : Int32) (r9 : (Int32 × Int32) ⊕ (Int32)), jX6_inState_31 a4 t3 = some r9 → (∀ a2, r9 = .inl a2 → (fun (a4 : Int32 × Int32) => X p l e R s m args below meth c 4 cy D B 0 0 Q 4 [(0, .ref (B + oMd)), (1, .int p1), (2, .int a4.1), (3, .int a4.2)] [] σ μ ω) a2) → (∀ b2, r9 = .inr b2 → (fun (b4 : Int32) => X p l e R s m args below meth c 4 cy D B 0 0 Q 39 [(2, .int b4)] [] σ μ ω) b2) → X p l e R s m args below meth c 4 cy D B 0 0 Q 31 [(0, .ref (B + oMd)), (1, .int p1), (3, .int a4.2)] [.int t3, .int a4.1] σ μ ω := by
        intro t3 r h hA1 hB2
        unfold jX6_inState_31 at h
        refine x_iadd C dX6_inState_31 ?_
        refine x_istore_n C [(2, .int (a4.1 + t3)), (0, .ref (B + oMd)), (1, .int p1), (3, .int a4.2)] dX6_inState_32 rfl (by decide) rfl ?_
        refine x_iinc C (k := 3) [(3, .int (a4.2 + (1 : Int32))), (2, .int (a4.1 + t3)), (0, .ref (B + oMd)), (1, .int p1)] dX6_inState_33 rfl rfl (by decide) rfl ?_
        refine x_goto C (tgt := 4) dX6_inState_36 (by decide) ?_
        cases h
        refine x_sub [2, 3, 1, 0] rfl ?_
        exact hA1 (a4.1 + t3, a4.2 + (1 : Int32)) rfl
      refine x_icmp_ne C (tgt := 30) dX6_inState_23 (by decide) (fun hc7 => ?_) (fun hc7 => ?_)
      · rw [if_pos hc7] at h
        refine x_iconst C (v := 0) dX6_inState_30 (by decide) ?_
        refine x_sub [0, 1, 3] rfl ?_
        exact hJ6 (0 : Int32) _ h hA1 hB2
      · rw [if_neg hc7] at h
        refine x_iconst C (v := 1) dX6_inState_26 (by decide) ?_
        refine x_goto C (tgt := 31) dX6_inState_27 (by decide) ?_
        refine x_sub [0, 1, 3] rfl ?_
        exact hJ6 (1 : Int32) _ h hA1 hB2
  · show X p l e R s m args below meth c 4 cy D B 0 0 Q 39 [(2, .int b4)] [] σ μ ω
    refine x_iload_n C dX6_inState_39 rfl 0 rfl ?_
    cases h
    exact hret _ _ dX6_inState_40 rfl
def fX6_count (p1 : Int32) (μ : Mem) : Option (Int32 × Mem) := (if p1 = (0 : Int32) then ((fX6_get (4 : Int32) (wI μ 60 0 0 (0 : Int32))).bind fun q1 => (some (q1, wI μ 60 0 0 (0 : Int32)))) else (if p1 = (1 : Int32) then ((fX6_allBeds (wI μ 60 0 0 (0 : Int32))).bind fun q2 => (some (q2, wI μ 60 0 0 (0 : Int32)))) else (if p1 = (2 : Int32) then ((fX6_get (37 : Int32) (wI μ 60 0 0 (0 : Int32))).bind fun q3 => (some (q3, wI μ 60 0 0 (0 : Int32)))) else (if p1 = (3 : Int32) then ((fX6_inState (0 : Int32) (wI μ 60 0 0 (0 : Int32))).bind fun q4 => (some (q4, wI μ 60 0 0 (0 : Int32)))) else (if p1 = (4 : Int32) then ((fX6_inState (1 : Int32) (wI μ 60 0 0 (0 : Int32))).bind fun q5 => (some (q5, wI μ 60 0 0 (0 : Int32)))) else (if p1 = (5 : Int32) then ((fX6_inState (2 : Int32) (wI μ 60 0 0 (0 : Int32))).bind fun q6 => (some (q6, wI μ 60 0 0 (0 : Int32)))) else ((fX6_fails (1 : Int32) (wI μ 60 0 0 (0 : Int32))).bind fun q7 => (some (q7.1, q7.2)))))))))
set_option maxHeartbeats 4000000 in
set_option maxRecDepth 100000 in
theorem okX6_count (l : Launch) (cy : Nat → ClassId) (D : va_G) (B : Nat) (ek : EK) (p1 : Int32) (σ μ ω : Mem) (res : Int32 × Mem) (h : fX6_count p1 μ = some res) : CT l cy D B ek yX6_count cX6_count 2 (some .int) ({ frames := 3, cells := 0, slots := 0, locals := 66 } : Room) [.ref (B + oMd), .int p1] σ μ ω (some (.int res.1)) σ res.2 ω := by
  refine met_X (own := "HostelBedsModel") (by decide) rfl (Nat.le_of_ble_eq_true rfl) ?_
  intro p e s m args below meth c C hrT hlk
  have hret : ∀ (pc9 : Nat) (lcs9 : List (Nat × Value)), decode cX6_count pc9 = .ok (.ireturn, 1) → narrow .int (.int res.1) = .int res.1 → X p l e ({ frames := 3, cells := 0, slots := 0, locals := 66 } : Room) s m args below meth c 2 cy D B 0 0 (MQ below (QR cy D B (some (.int res.1)) σ res.2 ω) args s 0 0 (aB B)) pc9 lcs9 [.int res.1] σ res.2 ω := fun _ _ hd hn => x_zret C hrT hlk hn hd
  generalize (MQ below (QR cy D B (some (.int res.1)) σ res.2 ω) args s 0 0 (aB B)) = Q at hret ⊢
  obtain ⟨R, hR9⟩ : ∃ R : Room, R = ({ frames := 3, cells := 0, slots := 0, locals := 66 } : Room) := ⟨_, rfl⟩
  rw [← hR9] at hret ⊢
  unfold fX6_count at h
  show X p l e R s m args below meth c 2 cy D B 0 0 Q 0 [(0, .ref (B + oMd)), (1, .int p1)] [] σ μ ω
  refine x_aload_n C dX6_count_0 rfl 0 rfl ?_
  refine x_iconst C (v := 0) dX6_count_1 (by decide) ?_
  refine x_put C (C1 := "HostelBedsModel") (T := TX6) (N := 27) (ci := 6) inXg6 tyX6 tyX6_ok nmX6 _ (c_Md) rfl 0 (by decide) (lw_g_mk tw_1131 rfl) rfl rfl rfl rfl (Nat.le_of_ble_eq_true rfl) dX6_count_2 (s_Md_thrown) ?_
  refine x_iload_n C dX6_count_5 rfl 1 rfl ?_
  by_cases hc1 : p1 = 0
  · rw [if_pos hc1] at h
    refine x_tableIn C (tgt := 44) dX6_count_6 (by rw [hc1]; decide) (by rw [hc1]; decide) (by first | (rw [hc1]; done) | (rw [hc1]; rfl)) (by decide) ?_
    refine x_aload_n C dX6_count_44 rfl 0 rfl ?_
    refine x_iconst C (v := 4) dX6_count_45 (by decide) ?_
    obtain ⟨q1, hk2, h⟩ := Option.bind_eq_some_iff.mp h
    refine x_callV C (As := [.int (4 : Int32)]) (rest := []) (lw_g_mk tw_1296 rfl) (lw_g_mk tsel_31 rfl) (c_Md) (C1 := "HostelBedsModel") (T := TX6) (N := 27) (ci := 6) rfl (okX6_get l cy D B ek (4 : Int32) σ (wI μ 60 0 0 (0 : Int32)) ω _ hk2) rfl rfl (by rw [hR9]; decide) (lw_g_mk tw_1297 rfl) (lw_g_mk tw_7 rfl) (by decide) rfl (lw_g_mk tw_1294 rfl) rfl (Nat.le_of_ble_eq_true rfl) dX6_count_46 (by rw [hR9]; decide) ?_
    cases h
    exact hret _ _ dX6_count_49 rfl
  rw [if_neg hc1] at h
  by_cases hc3 : p1 = 1
  · rw [if_pos hc3] at h
    refine x_tableIn C (tgt := 50) dX6_count_6 (by rw [hc3]; decide) (by rw [hc3]; decide) (by first | (rw [hc3]; done) | (rw [hc3]; rfl)) (by decide) ?_
    refine x_aload_n C dX6_count_50 rfl 0 rfl ?_
    obtain ⟨q2, hk4, h⟩ := Option.bind_eq_some_iff.mp h
    refine x_callV C (As := []) (rest := []) (lw_g_mk tw_1355 rfl) (lw_g_mk tsel_45 rfl) (c_Md) (C1 := "HostelBedsModel") (T := TX6) (N := 27) (ci := 6) rfl (okX6_allBeds l cy D B ek σ (wI μ 60 0 0 (0 : Int32)) ω _ hk4) rfl rfl (by rw [hR9]; decide) (lw_g_mk tw_1356 rfl) (lw_g_mk tw_7 rfl) (by decide) rfl (lw_g_mk tw_1353 rfl) rfl (Nat.le_of_ble_eq_true rfl) dX6_count_51 (by rw [hR9]; decide) ?_
    cases h
    exact hret _ _ dX6_count_54 rfl
  rw [if_neg hc3] at h
  by_cases hc5 : p1 = 2
  · rw [if_pos hc5] at h
    refine x_tableIn C (tgt := 55) dX6_count_6 (by rw [hc5]; decide) (by rw [hc5]; decide) (by first | (rw [hc5]; done) | (rw [hc5]; rfl)) (by decide) ?_
    refine x_aload_n C dX6_count_55 rfl 0 rfl ?_
    refine x_bipush C (v := 37) dX6_count_56 (by decide) ?_
    obtain ⟨q3, hk6, h⟩ := Option.bind_eq_some_iff.mp h
    refine x_callV C (As := [.int (37 : Int32)]) (rest := []) (lw_g_mk tw_1296 rfl) (lw_g_mk tsel_31 rfl) (c_Md) (C1 := "HostelBedsModel") (T := TX6) (N := 27) (ci := 6) rfl (okX6_get l cy D B ek (37 : Int32) σ (wI μ 60 0 0 (0 : Int32)) ω _ hk6) rfl rfl (by rw [hR9]; decide) (lw_g_mk tw_1297 rfl) (lw_g_mk tw_7 rfl) (by decide) rfl (lw_g_mk tw_1294 rfl) rfl (Nat.le_of_ble_eq_true rfl) dX6_count_58 (by rw [hR9]; decide) ?_
    cases h
    exact hret _ _ dX6_count_61 rfl
  rw [if_neg hc5] at h
  by_cases hc7 : p1 = 3
  · rw [if_pos hc7] at h
    refine x_tableIn C (tgt := 62) dX6_count_6 (by rw [hc7]; decide) (by rw [hc7]; decide) (by first | (rw [hc7]; done) | (rw [hc7]; rfl)) (by decide) ?_
    refine x_aload_n C dX6_count_62 rfl 0 rfl ?_
    refine x_iconst C (v := 0) dX6_count_63 (by decide) ?_
    obtain ⟨q4, hk8, h⟩ := Option.bind_eq_some_iff.mp h
    refine x_callV C (As := [.int (0 : Int32)]) (rest := []) (lw_g_mk tw_1411 rfl) (lw_g_mk tsel_57 rfl) (c_Md) (C1 := "HostelBedsModel") (T := TX6) (N := 27) (ci := 6) rfl (okX6_inState l cy D B ek (0 : Int32) σ (wI μ 60 0 0 (0 : Int32)) ω _ hk8) rfl rfl (by rw [hR9]; decide) (lw_g_mk tw_1412 rfl) (lw_g_mk tw_7 rfl) (by decide) rfl (lw_g_mk tw_1409 rfl) rfl (Nat.le_of_ble_eq_true rfl) dX6_count_64 (by rw [hR9]; decide) ?_
    cases h
    exact hret _ _ dX6_count_67 rfl
  rw [if_neg hc7] at h
  by_cases hc9 : p1 = 4
  · rw [if_pos hc9] at h
    refine x_tableIn C (tgt := 68) dX6_count_6 (by rw [hc9]; decide) (by rw [hc9]; decide) (by first | (rw [hc9]; done) | (rw [hc9]; rfl)) (by decide) ?_
    refine x_aload_n C dX6_count_68 rfl 0 rfl ?_
    refine x_iconst C (v := 1) dX6_count_69 (by decide) ?_
    obtain ⟨q5, hk10, h⟩ := Option.bind_eq_some_iff.mp h
    refine x_callV C (As := [.int (1 : Int32)]) (rest := []) (lw_g_mk tw_1411 rfl) (lw_g_mk tsel_57 rfl) (c_Md) (C1 := "HostelBedsModel") (T := TX6) (N := 27) (ci := 6) rfl (okX6_inState l cy D B ek (1 : Int32) σ (wI μ 60 0 0 (0 : Int32)) ω _ hk10) rfl rfl (by rw [hR9]; decide) (lw_g_mk tw_1412 rfl) (lw_g_mk tw_7 rfl) (by decide) rfl (lw_g_mk tw_1409 rfl) rfl (Nat.le_of_ble_eq_true rfl) dX6_count_70 (by rw [hR9]; decide) ?_
    cases h
    exact hret _ _ dX6_count_73 rfl
  rw [if_neg hc9] at h
  by_cases hc11 : p1 = 5
  · rw [if_pos hc11] at h
    refine x_tableIn C (tgt := 74) dX6_count_6 (by rw [hc11]; decide) (by rw [hc11]; decide) (by first | (rw [hc11]; done) | (rw [hc11]; rfl)) (by decide) ?_
    refine x_aload_n C dX6_count_74 rfl 0 rfl ?_
    refine x_iconst C (v := 2) dX6_count_75 (by decide) ?_
    obtain ⟨q6, hk12, h⟩ := Option.bind_eq_some_iff.mp h
    refine x_callV C (As := [.int (2 : Int32)]) (rest := []) (lw_g_mk tw_1411 rfl) (lw_g_mk tsel_57 rfl) (c_Md) (C1 := "HostelBedsModel") (T := TX6) (N := 27) (ci := 6) rfl (okX6_inState l cy D B ek (2 : Int32) σ (wI μ 60 0 0 (0 : Int32)) ω _ hk12) rfl rfl (by rw [hR9]; decide) (lw_g_mk tw_1412 rfl) (lw_g_mk tw_7 rfl) (by decide) rfl (lw_g_mk tw_1409 rfl) rfl (Nat.le_of_ble_eq_true rfl) dX6_count_76 (by rw [hR9]; decide) ?_
    cases h
    exact hret _ _ dX6_count_79 rfl
  rw [if_neg hc11] at h
  refine x_tableOut C (tgt := 80) dX6_count_6 (by have := lv_neT hc1 (a := 0) (by decide); have := lv_neT hc3 (a := 1) (by decide); have := lv_neT hc5 (a := 2) (by decide); have := lv_neT hc7 (a := 3) (by decide); have := lv_neT hc9 (a := 4) (by decide); have := lv_neT hc11 (a := 5) (by decide); omega) (by decide) ?_
  refine x_aload_n C dX6_count_80 rfl 0 rfl ?_
  refine x_iconst C (v := 1) dX6_count_81 (by decide) ?_
  obtain ⟨q7, hk13, h⟩ := Option.bind_eq_some_iff.mp h
  refine x_callV C (As := [.int (1 : Int32)]) (rest := []) (lw_g_mk tw_1224 rfl) (lw_g_mk tsel_18 rfl) (c_Md) (C1 := "HostelBedsModel") (T := TX6) (N := 27) (ci := 6) rfl (okX6_fails l cy D B ek (1 : Int32) σ (wI μ 60 0 0 (0 : Int32)) ω _ hk13) rfl rfl (by rw [hR9]; decide) (lw_g_mk tw_1225 rfl) (lw_g_mk tw_7 rfl) (by decide) rfl (lw_g_mk tw_1222 rfl) rfl (Nat.le_of_ble_eq_true rfl) dX6_count_82 (by rw [hR9]; decide) ?_
  cases h
  exact hret _ _ dX6_count_85 rfl
def fX6_setting (p1 : Int32) (μ : Mem) : Option (Int32 × Mem) := ((fX6_isIn p1 (0 : Int32) (3 : Int32)).bind fun q1 => (if q1 = 0 then ((fX6_fails (1 : Int32) (wI μ 60 0 0 (0 : Int32))).bind fun q2 => (some (q2.1, q2.2))) else ((fX6_get p1 (wI μ 60 0 0 (0 : Int32))).bind fun q3 => (some (q3, wI μ 60 0 0 (0 : Int32))))))
set_option maxHeartbeats 4000000 in
set_option maxRecDepth 100000 in
theorem okX6_setting (l : Launch) (cy : Nat → ClassId) (D : va_G) (B : Nat) (ek : EK) (p1 : Int32) (σ μ ω : Mem) (res : Int32 × Mem) (h : fX6_setting p1 μ = some res) : CT l cy D B ek yX6_setting cX6_setting 2 (some .int) ({ frames := 1, cells := 0, slots := 0, locals := 22 } : Room) [.ref (B + oMd), .int p1] σ μ ω (some (.int res.1)) σ res.2 ω := by
  refine met_X (own := "HostelBedsModel") (by decide) rfl (Nat.le_of_ble_eq_true rfl) ?_
  intro p e s m args below meth c C hrT hlk
  have hret : ∀ (pc9 : Nat) (lcs9 : List (Nat × Value)), decode cX6_setting pc9 = .ok (.ireturn, 1) → narrow .int (.int res.1) = .int res.1 → X p l e ({ frames := 1, cells := 0, slots := 0, locals := 22 } : Room) s m args below meth c 2 cy D B 0 0 (MQ below (QR cy D B (some (.int res.1)) σ res.2 ω) args s 0 0 (aB B)) pc9 lcs9 [.int res.1] σ res.2 ω := fun _ _ hd hn => x_zret C hrT hlk hn hd
  generalize (MQ below (QR cy D B (some (.int res.1)) σ res.2 ω) args s 0 0 (aB B)) = Q at hret ⊢
  obtain ⟨R, hR9⟩ : ∃ R : Room, R = ({ frames := 1, cells := 0, slots := 0, locals := 22 } : Room) := ⟨_, rfl⟩
  rw [← hR9] at hret ⊢
  unfold fX6_setting at h
  show X p l e R s m args below meth c 2 cy D B 0 0 Q 0 [(0, .ref (B + oMd)), (1, .int p1)] [] σ μ ω
  refine x_aload_n C dX6_setting_0 rfl 0 rfl ?_
  refine x_iconst C (v := 0) dX6_setting_1 (by decide) ?_
  refine x_put C (C1 := "HostelBedsModel") (T := TX6) (N := 27) (ci := 6) inXg6 tyX6 tyX6_ok nmX6 _ (c_Md) rfl 0 (by decide) (lw_g_mk tw_1131 rfl) rfl rfl rfl rfl (Nat.le_of_ble_eq_true rfl) dX6_setting_2 (s_Md_thrown) ?_
  refine x_iload_n C dX6_setting_5 rfl 1 rfl ?_
  refine x_iconst C (v := 0) dX6_setting_6 (by decide) ?_
  refine x_iconst C (v := 3) dX6_setting_7 (by decide) ?_
  obtain ⟨q1, hk1, h⟩ := Option.bind_eq_some_iff.mp h
  refine x_callS C (As := [.int p1, .int (0 : Int32), .int (3 : Int32)]) (rest := []) (lw_g_mk tw_1235 rfl) (okX6_isIn l cy D B ek p1 (0 : Int32) (3 : Int32) σ (wI μ 60 0 0 (0 : Int32)) ω _ hk1) rfl rfl (by rw [hR9]; decide) (lw_g_mk tw_1236 rfl) (lw_g_mk tw_7 rfl) (by decide) rfl (lw_g_mk tw_1234 rfl) rfl (Nat.le_of_ble_eq_true rfl) dX6_setting_8 (by rw [hR9]; decide) ?_
  refine x_if_eq C (tgt := 22) dX6_setting_11 (by decide) (fun hc2 => ?_) (fun hc2 => ?_)
  · rw [if_pos hc2] at h
    refine x_aload_n C dX6_setting_22 rfl 0 rfl ?_
    refine x_iconst C (v := 1) dX6_setting_23 (by decide) ?_
    obtain ⟨q2, hk3, h⟩ := Option.bind_eq_some_iff.mp h
    refine x_callV C (As := [.int (1 : Int32)]) (rest := []) (lw_g_mk tw_1224 rfl) (lw_g_mk tsel_18 rfl) (c_Md) (C1 := "HostelBedsModel") (T := TX6) (N := 27) (ci := 6) rfl (okX6_fails l cy D B ek (1 : Int32) σ (wI μ 60 0 0 (0 : Int32)) ω _ hk3) rfl rfl (by rw [hR9]; decide) (lw_g_mk tw_1225 rfl) (lw_g_mk tw_7 rfl) (by decide) rfl (lw_g_mk tw_1222 rfl) rfl (Nat.le_of_ble_eq_true rfl) dX6_setting_24 (by rw [hR9]; decide) ?_
    cases h
    exact hret _ _ dX6_setting_27 rfl
  · rw [if_neg hc2] at h
    refine x_aload_n C dX6_setting_14 rfl 0 rfl ?_
    refine x_iload_n C dX6_setting_15 rfl 1 rfl ?_
    obtain ⟨q3, hk4, h⟩ := Option.bind_eq_some_iff.mp h
    refine x_callV C (As := [.int p1]) (rest := []) (lw_g_mk tw_1296 rfl) (lw_g_mk tsel_31 rfl) (c_Md) (C1 := "HostelBedsModel") (T := TX6) (N := 27) (ci := 6) rfl (okX6_get l cy D B ek p1 σ (wI μ 60 0 0 (0 : Int32)) ω _ hk4) rfl rfl (by rw [hR9]; decide) (lw_g_mk tw_1297 rfl) (lw_g_mk tw_7 rfl) (by decide) rfl (lw_g_mk tw_1294 rfl) rfl (Nat.le_of_ble_eq_true rfl) dX6_setting_16 (by rw [hR9]; decide) ?_
    refine x_goto C (tgt := 27) dX6_setting_19 (by decide) ?_
    cases h
    exact hret _ _ dX6_setting_27 rfl
def fX6_room (p1 : Int32) (p2 : Int32) (μ : Mem) : Option (Int32 × Mem) := ((fX6_isRoom p1 (wI μ 60 0 0 (0 : Int32))).bind fun q1 => (if ¬ q1 = 0 then ((fX6_isIn p2 (0 : Int32) (3 : Int32)).bind fun q2 => (if q2 = 0 then ((fX6_fails (2 : Int32) (wI μ 60 0 0 (0 : Int32))).bind fun q3 => (some (q3.1, q3.2))) else ((fX6_roomIs p1 p2 (wI μ 60 0 0 (0 : Int32))).bind fun q4 => (some (q4, wI μ 60 0 0 (0 : Int32)))))) else ((fX6_fails (1 : Int32) (wI μ 60 0 0 (0 : Int32))).bind fun q5 => (some (q5.1, q5.2)))))
set_option maxHeartbeats 4000000 in
set_option maxRecDepth 100000 in
theorem okX6_room (l : Launch) (cy : Nat → ClassId) (D : va_G) (B : Nat) (ek : EK) (p1 : Int32) (p2 : Int32) (σ μ ω : Mem) (res : Int32 × Mem) (h : fX6_room p1 p2 μ = some res) : CT l cy D B ek yX6_room cX6_room 3 (some .int) ({ frames := 2, cells := 0, slots := 0, locals := 43 } : Room) [.ref (B + oMd), .int p1, .int p2] σ μ ω (some (.int res.1)) σ res.2 ω := by
  refine met_X (own := "HostelBedsModel") (by decide) rfl (Nat.le_of_ble_eq_true rfl) ?_
  intro p e s m args below meth c C hrT hlk
  have hret : ∀ (pc9 : Nat) (lcs9 : List (Nat × Value)), decode cX6_room pc9 = .ok (.ireturn, 1) → narrow .int (.int res.1) = .int res.1 → X p l e ({ frames := 2, cells := 0, slots := 0, locals := 43 } : Room) s m args below meth c 3 cy D B 0 0 (MQ below (QR cy D B (some (.int res.1)) σ res.2 ω) args s 0 0 (aB B)) pc9 lcs9 [.int res.1] σ res.2 ω := fun _ _ hd hn => x_zret C hrT hlk hn hd
  generalize (MQ below (QR cy D B (some (.int res.1)) σ res.2 ω) args s 0 0 (aB B)) = Q at hret ⊢
  obtain ⟨R, hR9⟩ : ∃ R : Room, R = ({ frames := 2, cells := 0, slots := 0, locals := 43 } : Room) := ⟨_, rfl⟩
  rw [← hR9] at hret ⊢
  unfold fX6_room at h
  show X p l e R s m args below meth c 3 cy D B 0 0 Q 0 [(0, .ref (B + oMd)), (1, .int p1), (2, .int p2)] [] σ μ ω
  refine x_aload_n C dX6_room_0 rfl 0 rfl ?_
  refine x_iconst C (v := 0) dX6_room_1 (by decide) ?_
  refine x_put C (C1 := "HostelBedsModel") (T := TX6) (N := 27) (ci := 6) inXg6 tyX6 tyX6_ok nmX6 _ (c_Md) rfl 0 (by decide) (lw_g_mk tw_1131 rfl) rfl rfl rfl rfl (Nat.le_of_ble_eq_true rfl) dX6_room_2 (s_Md_thrown) ?_
  refine x_aload_n C dX6_room_5 rfl 0 rfl ?_
  refine x_iload_n C dX6_room_6 rfl 1 rfl ?_
  obtain ⟨q1, hk1, h⟩ := Option.bind_eq_some_iff.mp h
  refine x_callV C (As := [.int p1]) (rest := []) (lw_g_mk tw_1423 rfl) (lw_g_mk tsel_58 rfl) (c_Md) (C1 := "HostelBedsModel") (T := TX6) (N := 27) (ci := 6) rfl (okX6_isRoom l cy D B ek p1 σ (wI μ 60 0 0 (0 : Int32)) ω _ hk1) rfl rfl (by rw [hR9]; decide) (lw_g_mk tw_1424 rfl) (lw_g_mk tw_7 rfl) (by decide) rfl (lw_g_mk tw_1421 rfl) rfl (Nat.le_of_ble_eq_true rfl) dX6_room_7 (by rw [hR9]; decide) ?_
  refine x_if_ne C (tgt := 19) dX6_room_10 (by decide) (fun hc2 => ?_) (fun hc2 => ?_)
  · rw [if_pos hc2] at h
    refine x_iload_n C dX6_room_19 rfl 2 rfl ?_
    refine x_iconst C (v := 0) dX6_room_20 (by decide) ?_
    refine x_iconst C (v := 3) dX6_room_21 (by decide) ?_
    obtain ⟨q2, hk3, h⟩ := Option.bind_eq_some_iff.mp h
    refine x_callS C (As := [.int p2, .int (0 : Int32), .int (3 : Int32)]) (rest := []) (lw_g_mk tw_1235 rfl) (okX6_isIn l cy D B ek p2 (0 : Int32) (3 : Int32) σ (wI μ 60 0 0 (0 : Int32)) ω _ hk3) rfl rfl (by rw [hR9]; decide) (lw_g_mk tw_1236 rfl) (lw_g_mk tw_7 rfl) (by decide) rfl (lw_g_mk tw_1234 rfl) rfl (Nat.le_of_ble_eq_true rfl) dX6_room_22 (by rw [hR9]; decide) ?_
    refine x_if_eq C (tgt := 37) dX6_room_25 (by decide) (fun hc4 => ?_) (fun hc4 => ?_)
    · rw [if_pos hc4] at h
      refine x_aload_n C dX6_room_37 rfl 0 rfl ?_
      refine x_iconst C (v := 2) dX6_room_38 (by decide) ?_
      obtain ⟨q3, hk5, h⟩ := Option.bind_eq_some_iff.mp h
      refine x_callV C (As := [.int (2 : Int32)]) (rest := []) (lw_g_mk tw_1224 rfl) (lw_g_mk tsel_18 rfl) (c_Md) (C1 := "HostelBedsModel") (T := TX6) (N := 27) (ci := 6) rfl (okX6_fails l cy D B ek (2 : Int32) σ (wI μ 60 0 0 (0 : Int32)) ω _ hk5) rfl rfl (by rw [hR9]; decide) (lw_g_mk tw_1225 rfl) (lw_g_mk tw_7 rfl) (by decide) rfl (lw_g_mk tw_1222 rfl) rfl (Nat.le_of_ble_eq_true rfl) dX6_room_39 (by rw [hR9]; decide) ?_
      cases h
      exact hret _ _ dX6_room_42 rfl
    · rw [if_neg hc4] at h
      refine x_aload_n C dX6_room_28 rfl 0 rfl ?_
      refine x_iload_n C dX6_room_29 rfl 1 rfl ?_
      refine x_iload_n C dX6_room_30 rfl 2 rfl ?_
      obtain ⟨q4, hk6, h⟩ := Option.bind_eq_some_iff.mp h
      refine x_callV C (As := [.int p1, .int p2]) (rest := []) (lw_g_mk tw_1359 rfl) (lw_g_mk tsel_46 rfl) (c_Md) (C1 := "HostelBedsModel") (T := TX6) (N := 27) (ci := 6) rfl (okX6_roomIs l cy D B ek p1 p2 σ (wI μ 60 0 0 (0 : Int32)) ω _ hk6) rfl rfl (by rw [hR9]; decide) (lw_g_mk tw_1360 rfl) (lw_g_mk tw_7 rfl) (by decide) rfl (lw_g_mk tw_1357 rfl) rfl (Nat.le_of_ble_eq_true rfl) dX6_room_31 (by rw [hR9]; decide) ?_
      refine x_goto C (tgt := 42) dX6_room_34 (by decide) ?_
      cases h
      exact hret _ _ dX6_room_42 rfl
  · rw [if_neg hc2] at h
    refine x_aload_n C dX6_room_13 rfl 0 rfl ?_
    refine x_iconst C (v := 1) dX6_room_14 (by decide) ?_
    obtain ⟨q5, hk7, h⟩ := Option.bind_eq_some_iff.mp h
    refine x_callV C (As := [.int (1 : Int32)]) (rest := []) (lw_g_mk tw_1224 rfl) (lw_g_mk tsel_18 rfl) (c_Md) (C1 := "HostelBedsModel") (T := TX6) (N := 27) (ci := 6) rfl (okX6_fails l cy D B ek (1 : Int32) σ (wI μ 60 0 0 (0 : Int32)) ω _ hk7) rfl rfl (by rw [hR9]; decide) (lw_g_mk tw_1225 rfl) (lw_g_mk tw_7 rfl) (by decide) rfl (lw_g_mk tw_1222 rfl) rfl (Nat.le_of_ble_eq_true rfl) dX6_room_15 (by rw [hR9]; decide) ?_
    cases h
    exact hret _ _ dX6_room_18 rfl
