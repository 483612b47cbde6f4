def fL_append_LOut (p2 : Int32) (p3 : Int32) (p4 : Int32) (p5 : Int32) (p6 : Int32) (σ : Mem) (ω : Mem) : Option (Int32 × Mem × Mem) := ((fX5_append p2 p3 p4 p5 p6 σ).bind fun q1 => Sum.elim (fun x2 => (some ((0 : Int32), q1.2, wJ ω 20 0 (0 : Int32).toNatClampNeg x2.toInt64))) (fun e3 => (if e3 = 1 then (some ((1 : Int32), q1.2, ω)) else none)) q1.1)
set_option maxHeartbeats 4000000 in
set_option maxRecDepth 100000 in
theorem okL_append_LOut (l : Launch) (hlf : l.stackTraces = false) (cy : Nat → ClassId) (D : va_G) (B : Nat) (ek : EK) (h9 : ¬ cy 9 = 0) (p2 : Int32) (p3 : Int32) (p4 : Int32) (p5 : Int32) (p6 : Int32) (σ μ ω : Mem) (res : Int32 × Mem × Mem) (h : fL_append_LOut p2 p3 p4 p5 p6 σ ω = some res) : CTW l cy D B ek yL_append cL_append 8 (some .int) [(0, 16, 19, 13)] ({ frames := 7, cells := 1, slots := 6, locals := 145 } : Room) 1 6 [.ref (B + oHB), .int p2, .int p3, .int p4, .int p5, .int p6, .ref (B + oLOut)] σ μ ω (some (.int res.1)) res.2.1 μ res.2.2 := by
  refine met_XW (own := "HostelBedsLaw") (by decide) rfl (Nat.le_of_ble_eq_true rfl) ?_
  intro p e s m args below meth c C hrT hlk htab
  have hret : ∀ (cells9 slots9 pc9 : Nat) (lcs9 : List (Nat × Value)), decode cL_append pc9 = .ok (.ireturn, 1) → narrow .int (.int res.1) = .int res.1 → cells9 ≤ 1 → slots9 ≤ 6 → X p l e ({ frames := 7, cells := 1, slots := 6, locals := 145 } : Room) s m args below meth c 8 cy D B cells9 slots9 (vx_MQ below (QX cy D B (.inl (some (.int res.1))) res.2.1 μ res.2.2) (fun _ _ _ => False) args s 1 6 (aB B)) pc9 lcs9 [.int res.1] res.2.1 μ res.2.2 := fun cells9 slots9 pc9 lcs9 hd hn h1 h2 => x_zretX C hrT hlk hn hd h1 h2
  generalize (vx_MQ below (QX cy D B (.inl (some (.int res.1))) res.2.1 μ res.2.2) (fun _ _ _ => False) args s 1 6 (aB B)) = Q at hret ⊢
  obtain ⟨R, hR9⟩ : ∃ R : Room, R = ({ frames := 7, cells := 1, slots := 6, locals := 145 } : Room) := ⟨_, rfl⟩
  rw [← hR9] at hret ⊢
  unfold fL_append_LOut at h
  show X p l e R s m args below meth c 8 cy D B 0 0 Q 0 [(0, .ref (B + oHB)), (1, .int p2), (2, .int p3), (3, .int p4), (4, .int p5), (5, .int p6), (6, .ref (B + oLOut))] [] σ μ ω
  refine x_aload C dL_append_0 6 rfl ?_
  refine x_iconst C (v := 0) dL_append_2 (by decide) ?_
  refine x_aload_n C dL_append_3 rfl 0 rfl ?_
  refine x_iload_n C dL_append_4 rfl 1 rfl ?_
  refine x_iload_n C dL_append_5 rfl 2 rfl ?_
  refine x_iload_n C dL_append_6 rfl 3 rfl ?_
  refine x_iload C dL_append_7 4 rfl ?_
  refine x_iload C dL_append_9 5 rfl ?_
  obtain ⟨q1, hk1, h⟩ := Option.bind_eq_some_iff.mp h
  refine x_callVX C (As := [.int p2, .int p3, .int p4, .int p5, .int p6]) (rest := [.int (0 : Int32), .ref (B + oLOut)]) (cells2 := 1) (slots2 := 6) (lw_g_mk tw_474 rfl) (lw_g_mk tw_475 rfl) (c_HB) (C1 := "HostelBeds") (T := TX5) (N := 12) (ci := 5) rfl (okX5_append l hlf cy D B ek p2 p3 p4 p5 p6 σ μ ω _ hk1) rfl rfl (by rw [hR9]; decide) (lw_g_mk tw_476 rfl) (lw_g_mk tw_1 rfl) (by decide) rfl (lw_g_mk tw_473 rfl) rfl (Nat.le_of_ble_eq_true rfl) dL_append_11 (by rw [hR9]; decide) rfl rfl (fun v2 hv3 => ?_) (fun k4 hv5 => ?_)
  · rcases hq6 : q1.1 with x2 | e3
    · rw [hq6, Sum.elim_inl] at h
      rw [hq6] at hv3
      have hv3 : (Sum.inl (some (Value.int x2)) : Option Value ⊕ Nat) = .inl v2 := hv3
      cases hv3
      refine x_i2l C dL_append_14 ?_
      refine x_last C _ (c_LOut h9) (by decide : inb (0 : Int32) 1) dL_append_15 (s_LOut h9) ?_
      refine x_goto C (tgt := 23) dL_append_16 (by decide) ?_
      refine x_iconst C (v := 0) dL_append_23 (by decide) ?_
      cases h
      exact hret _ _ _ _ dL_append_24 rfl (by decide) (by decide)
    · rw [hq6] at hv3; cases hv3
  · rcases hq7 : q1.1 with x2 | e3
    · rw [hq7] at hv5; cases hv5
    · rw [hq7, Sum.elim_inr] at h
      rw [hq7] at hv5
      have hv5 : (Sum.inr e3 : Option Value ⊕ Nat) = .inr k4 := hv5
      cases hv5
      by_cases hc8 : k4 = 1
      · rw [if_pos hc8] at h
        subst hc8
        refine x_catch C htab [] ⟨0, 16, 19, 13⟩ [] rfl (fun z hz => by cases hz) (by decide +kernel) (by decide) (lw_g_mk tw_472 rfl) (by decide +kernel) (fun q9 => ?_)
        refine x_astore C [(7, .ref q9), (0, .ref (B + oHB)), (1, .int p2), (2, .int p3), (3, .int p4), (4, .int p5), (5, .int p6), (6, .ref (B + oLOut))] dL_append_19 (by decide) rfl ?_
        refine x_iconst C (v := 1) dL_append_21 (by decide) ?_
        cases h
        exact hret _ _ _ _ dL_append_22 rfl (by decide) (by decide)
      rw [if_neg hc8] at h
      cases h
def fL_truncate (p2 : Int32) (σ : Mem) : Option (Int32 × Mem) := ((fX5_truncate p2 σ).bind fun q1 => Sum.elim (fun x2 => (some ((0 : Int32), q1.2))) (fun e3 => (if e3 = 2 then (some ((1 : Int32), q1.2)) else none)) q1.1)
set_option maxHeartbeats 4000000 in
set_option maxRecDepth 100000 in
theorem okL_truncate (l : Launch) (hlf : l.stackTraces = false) (cy : Nat → ClassId) (D : va_G) (B : Nat) (ek : EK) (h9 : ¬ cy 9 = 0) (p2 : Int32) (σ μ ω : Mem) (res : Int32 × Mem) (h : fL_truncate p2 σ = some res) : CTW l cy D B ek yL_truncate cL_truncate 3 (some .int) [(0, 5, 8, 19)] ({ frames := 7, cells := 1, slots := 6, locals := 141 } : Room) 1 6 [.ref (B + oHB), .int p2] σ μ ω (some (.int res.1)) res.2 μ ω := by
  refine met_XW (own := "HostelBedsLaw") (by decide) rfl (Nat.le_of_ble_eq_true rfl) ?_
  intro p e s m args below meth c C hrT hlk htab
  have hret : ∀ (cells9 slots9 pc9 : Nat) (lcs9 : List (Nat × Value)), decode cL_truncate pc9 = .ok (.ireturn, 1) → narrow .int (.int res.1) = .int res.1 → cells9 ≤ 1 → slots9 ≤ 6 → X p l e ({ frames := 7, cells := 1, slots := 6, locals := 141 } : Room) s m args below meth c 3 cy D B cells9 slots9 (vx_MQ below (QX cy D B (.inl (some (.int res.1))) res.2 μ ω) (fun _ _ _ => False) args s 1 6 (aB B)) pc9 lcs9 [.int res.1] res.2 μ ω := fun cells9 slots9 pc9 lcs9 hd hn h1 h2 => x_zretX C hrT hlk hn hd h1 h2
  generalize (vx_MQ below (QX cy D B (.inl (some (.int res.1))) res.2 μ ω) (fun _ _ _ => False) args s 1 6 (aB B)) = Q at hret ⊢
  obtain ⟨R, hR9⟩ : ∃ R : Room, R = ({ frames := 7, cells := 1, slots := 6, locals := 141 } : Room) := ⟨_, rfl⟩
  rw [← hR9] at hret ⊢
  unfold fL_truncate at h
  show X p l e R s m args below meth c 3 cy D B 0 0 Q 0 [(0, .ref (B + oHB)), (1, .int p2)] [] σ μ ω
  refine x_aload_n C dL_truncate_0 rfl 0 rfl ?_
  refine x_iload_n C dL_truncate_1 rfl 1 rfl ?_
  obtain ⟨q1, hk1, h⟩ := Option.bind_eq_some_iff.mp h
  refine x_callVX C (As := [.int p2]) (rest := []) (cells2 := 1) (slots2 := 6) (lw_g_mk tw_554 rfl) (lw_g_mk tw_555 rfl) (c_HB) (C1 := "HostelBeds") (T := TX5) (N := 12) (ci := 5) rfl (okX5_truncate l hlf cy D B ek p2 σ μ ω _ hk1) rfl rfl (by rw [hR9]; decide) (lw_g_mk tw_556 rfl) (lw_g_mk tw_1 rfl) (by decide) rfl (lw_g_mk tw_553 rfl) rfl (Nat.le_of_ble_eq_true rfl) dL_truncate_2 (by rw [hR9]; decide) rfl rfl (fun v2 hv3 => ?_) (fun k4 hv5 => ?_)
  · rcases hq6 : q1.1 with x2 | e3
    · rw [hq6, Sum.elim_inl] at h
      rw [hq6] at hv3
      have hv3 : (Sum.inl (none) : Option Value ⊕ Nat) = .inl v2 := hv3
      cases hv3
      refine x_goto C (tgt := 11) dL_truncate_5 (by decide) ?_
      refine x_iconst C (v := 0) dL_truncate_11 (by decide) ?_
      cases h
      exact hret _ _ _ _ dL_truncate_12 rfl (by decide) (by decide)
    · rw [hq6] at hv3; cases hv3
  · rcases hq7 : q1.1 with x2 | e3
    · rw [hq7] at hv5; cases hv5
    · rw [hq7, Sum.elim_inr] at h
      rw [hq7] at hv5
      have hv5 : (Sum.inr e3 : Option Value ⊕ Nat) = .inr k4 := hv5
      cases hv5
      by_cases hc8 : k4 = 2
      · rw [if_pos hc8] at h
        subst hc8
        refine x_catch C htab [] ⟨0, 5, 8, 19⟩ [] rfl (fun z hz => by cases hz) (by decide +kernel) (by decide) (lw_g_mk tw_552 rfl) (by decide +kernel) (fun q9 => ?_)
        refine x_astore_n C [(2, .ref q9), (0, .ref (B + oHB)), (1, .int p2)] dL_truncate_8 rfl (by decide) rfl ?_
        refine x_iconst C (v := 1) dL_truncate_9 (by decide) ?_
        cases h
        exact hret _ _ _ _ dL_truncate_10 rfl (by decide) (by decide)
      rw [if_neg hc8] at h
      cases h
def fL_load_LOut (σ : Mem) (ω : Mem) : Option (Int32 × Mem × Mem) := ((fX5_load σ).bind fun q1 => Sum.elim (fun x2 => (some ((0 : Int32), q1.2, wJ ω 20 0 (0 : Int32).toNatClampNeg x2.toInt64))) (fun e3 => (if e3 = 2 then (some ((1 : Int32), q1.2, ω)) else none)) q1.1)
set_option maxHeartbeats 4000000 in
set_option maxRecDepth 100000 in
theorem okL_load_LOut (l : Launch) (hlf : l.stackTraces = false) (cy : Nat → ClassId) (D : va_G) (B : Nat) (ek : EK) (h9 : ¬ cy 9 = 0) (σ μ ω : Mem) (res : Int32 × Mem × Mem) (h : fL_load_LOut σ ω = some res) : CTW l cy D B ek yL_load cL_load 3 (some .int) [(0, 8, 11, 19)] ({ frames := 12, cells := 1, slots := 6, locals := 249 } : Room) 1 6 [.ref (B + oHB), .ref (B + oLOut)] σ μ ω (some (.int res.1)) res.2.1 μ res.2.2 := by
  refine met_XW (own := "HostelBedsLaw") (by decide) rfl (Nat.le_of_ble_eq_true rfl) ?_
  intro p e s m args below meth c C hrT hlk htab
  have hret : ∀ (cells9 slots9 pc9 : Nat) (lcs9 : List (Nat × Value)), decode cL_load pc9 = .ok (.ireturn, 1) → narrow .int (.int res.1) = .int res.1 → cells9 ≤ 1 → slots9 ≤ 6 → X p l e ({ frames := 12, cells := 1, slots := 6, locals := 249 } : Room) s m args below meth c 3 cy D B cells9 slots9 (vx_MQ below (QX cy D B (.inl (some (.int res.1))) res.2.1 μ res.2.2) (fun _ _ _ => False) args s 1 6 (aB B)) pc9 lcs9 [.int res.1] res.2.1 μ res.2.2 := fun cells9 slots9 pc9 lcs9 hd hn h1 h2 => x_zretX C hrT hlk hn hd h1 h2
  generalize (vx_MQ below (QX cy D B (.inl (some (.int res.1))) res.2.1 μ res.2.2) (fun _ _ _ => False) args s 1 6 (aB B)) = Q at hret ⊢
  obtain ⟨R, hR9⟩ : ∃ R : Room, R = ({ frames := 12, cells := 1, slots := 6, locals := 249 } : Room) := ⟨_, rfl⟩
  rw [← hR9] at hret ⊢
  unfold fL_load_LOut at h
  show X p l e R s m args below meth c 3 cy D B 0 0 Q 0 [(0, .ref (B + oHB)), (1, .ref (B + oLOut))] [] σ μ ω
  refine x_aload_n C dL_load_0 rfl 1 rfl ?_
  refine x_iconst C (v := 0) dL_load_1 (by decide) ?_
  refine x_aload_n C dL_load_2 rfl 0 rfl ?_
  obtain ⟨q1, hk1, h⟩ := Option.bind_eq_some_iff.mp h
  refine x_callVX C (As := []) (rest := [.int (0 : Int32), .ref (B + oLOut)]) (cells2 := 1) (slots2 := 6) (lw_g_mk tw_577 rfl) (lw_g_mk tw_578 rfl) (c_HB) (C1 := "HostelBeds") (T := TX5) (N := 12) (ci := 5) rfl (okX5_load l hlf cy D B ek σ μ ω _ hk1) rfl rfl (by rw [hR9]; decide) (lw_g_mk tw_579 rfl) (lw_g_mk tw_1 rfl) (by decide) rfl (lw_g_mk tw_576 rfl) rfl (Nat.le_of_ble_eq_true rfl) dL_load_3 (by rw [hR9]; decide) rfl rfl (fun v2 hv3 => ?_) (fun k4 hv5 => ?_)
  · rcases hq6 : q1.1 with x2 | e3
    · rw [hq6, Sum.elim_inl] at h
      rw [hq6] at hv3
      have hv3 : (Sum.inl (some (Value.int x2)) : Option Value ⊕ Nat) = .inl v2 := hv3
      cases hv3
      refine x_i2l C dL_load_6 ?_
      refine x_last C _ (c_LOut h9) (by decide : inb (0 : Int32) 1) dL_load_7 (s_LOut h9) ?_
      refine x_goto C (tgt := 14) dL_load_8 (by decide) ?_
      refine x_iconst C (v := 0) dL_load_14 (by decide) ?_
      cases h
      exact hret _ _ _ _ dL_load_15 rfl (by decide) (by decide)
    · rw [hq6] at hv3; cases hv3
  · rcases hq7 : q1.1 with x2 | e3
    · rw [hq7] at hv5; cases hv5
    · rw [hq7, Sum.elim_inr] at h
      rw [hq7] at hv5
      have hv5 : (Sum.inr e3 : Option Value ⊕ Nat) = .inr k4 := hv5
      cases hv5
      by_cases hc8 : k4 = 2
      · rw [if_pos hc8] at h
        subst hc8
        refine x_catch C htab [] ⟨0, 8, 11, 19⟩ [] rfl (fun z hz => by cases hz) (by decide +kernel) (by decide) (lw_g_mk tw_552 rfl) (by decide +kernel) (fun q9 => ?_)
        refine x_astore_n C [(2, .ref q9), (0, .ref (B + oHB)), (1, .ref (B + oLOut))] dL_load_11 rfl (by decide) rfl ?_
        refine x_iconst C (v := 1) dL_load_12 (by decide) ?_
        cases h
        exact hret _ _ _ _ dL_load_13 rfl (by decide) (by decide)
      rw [if_neg hc8] at h
      cases h
def fL_count_LOut (p2 : Int32) (σ : Mem) (ω : Mem) : Option (Int32 × Mem) := ((fX5_count p2 σ).bind fun q1 => Sum.elim (fun x2 => (some ((0 : Int32), wJ ω 20 0 (0 : Int32).toNatClampNeg x2.toInt64))) (fun e3 => (if e3 = 2 then (some ((1 : Int32), ω)) else none)) q1)
set_option maxHeartbeats 4000000 in
set_option maxRecDepth 100000 in
theorem okL_count_LOut (l : Launch) (hlf : l.stackTraces = false) (cy : Nat → ClassId) (D : va_G) (B : Nat) (ek : EK) (h9 : ¬ cy 9 = 0) (p2 : Int32) (σ μ ω : Mem) (res : Int32 × Mem) (h : fL_count_LOut p2 σ ω = some res) : CTW l cy D B ek yL_count cL_count 4 (some .int) [(0, 9, 12, 19)] ({ frames := 7, cells := 1, slots := 6, locals := 141 } : Room) 1 6 [.ref (B + oHB), .int p2, .ref (B + oLOut)] σ μ ω (some (.int res.1)) σ μ res.2 := by
  refine met_XW (own := "HostelBedsLaw") (by decide) rfl (Nat.le_of_ble_eq_true rfl) ?_
  intro p e s m args below meth c C hrT hlk htab
  have hret : ∀ (cells9 slots9 pc9 : Nat) (lcs9 : List (Nat × Value)), decode cL_count pc9 = .ok (.ireturn, 1) → narrow .int (.int res.1) = .int res.1 → cells9 ≤ 1 → slots9 ≤ 6 → X p l e ({ frames := 7, cells := 1, slots := 6, locals := 141 } : Room) s m args below meth c 4 cy D B cells9 slots9 (vx_MQ below (QX cy D B (.inl (some (.int res.1))) σ μ res.2) (fun _ _ _ => False) args s 1 6 (aB B)) pc9 lcs9 [.int res.1] σ μ res.2 := fun cells9 slots9 pc9 lcs9 hd hn h1 h2 => x_zretX C hrT hlk hn hd h1 h2
  generalize (vx_MQ below (QX cy D B (.inl (some (.int res.1))) σ μ res.2) (fun _ _ _ => False) args s 1 6 (aB B)) = Q at hret ⊢
  obtain ⟨R, hR9⟩ : ∃ R : Room, R = ({ frames := 7, cells := 1, slots := 6, locals := 141 } : Room) := ⟨_, rfl⟩
  rw [← hR9] at hret ⊢
  unfold fL_count_LOut at h
  show X p l e R s m args below meth c 4 cy D B 0 0 Q 0 [(0, .ref (B + oHB)), (1, .int p2), (2, .ref (B + oLOut))] [] σ μ ω
  refine x_aload_n C dL_count_0 rfl 2 rfl ?_
  refine x_iconst C (v := 0) dL_count_1 (by decide) ?_
  refine x_aload_n C dL_count_2 rfl 0 rfl ?_
  refine x_iload_n C dL_count_3 rfl 1 rfl ?_
  obtain ⟨q1, hk1, h⟩ := Option.bind_eq_some_iff.mp h
  refine x_callVX C (As := [.int p2]) (rest := [.int (0 : Int32), .ref (B + oLOut)]) (cells2 := 1) (slots2 := 6) (lw_g_mk tw_734 rfl) (lw_g_mk tw_735 rfl) (c_HB) (C1 := "HostelBeds") (T := TX5) (N := 12) (ci := 5) rfl (okX5_count l hlf cy D B ek p2 σ μ ω _ hk1) rfl rfl (by rw [hR9]; decide) (lw_g_mk tw_736 rfl) (lw_g_mk tw_1 rfl) (by decide) rfl (lw_g_mk tw_733 rfl) rfl (Nat.le_of_ble_eq_true rfl) dL_count_4 (by rw [hR9]; decide) rfl rfl (fun v2 hv3 => ?_) (fun k4 hv5 => ?_)
  · rcases q1 with x2 | e3
    · rw [Sum.elim_inl] at h
      have hv3 : (Sum.inl (some (Value.int x2)) : Option Value ⊕ Nat) = .inl v2 := hv3
      cases hv3
      refine x_i2l C dL_count_7 ?_
      refine x_last C _ (c_LOut h9) (by decide : inb (0 : Int32) 1) dL_count_8 (s_LOut h9) ?_
      refine x_goto C (tgt := 15) dL_count_9 (by decide) ?_
      refine x_iconst C (v := 0) dL_count_15 (by decide) ?_
      cases h
      exact hret _ _ _ _ dL_count_16 rfl (by decide) (by decide)
    · cases hv3
  · rcases q1 with x2 | e3
    · cases hv5
    · rw [Sum.elim_inr] at h
      have hv5 : (Sum.inr e3 : Option Value ⊕ Nat) = .inr k4 := hv5
      cases hv5
      by_cases hc8 : k4 = 2
      · rw [if_pos hc8] at h
        subst hc8
        refine x_catch C htab [] ⟨0, 9, 12, 19⟩ [] rfl (fun z hz => by cases hz) (by decide +kernel) (by decide) (lw_g_mk tw_552 rfl) (by decide +kernel) (fun q9 => ?_)
        refine x_astore_n C [(3, .ref q9), (0, .ref (B + oHB)), (1, .int p2), (2, .ref (B + oLOut))] dL_count_12 rfl (by decide) rfl ?_
        refine x_iconst C (v := 1) dL_count_13 (by decide) ?_
        cases h
        exact hret _ _ _ _ dL_count_14 rfl (by decide) (by decide)
      rw [if_neg hc8] at h
      cases h
def fL_setting_LOut (p2 : Int32) (σ : Mem) (ω : Mem) : Option (Int32 × Mem) := ((fX5_setting p2 σ).bind fun q1 => Sum.elim (fun x2 => (some ((0 : Int32), wJ ω 20 0 (0 : Int32).toNatClampNeg x2.toInt64))) (fun e3 => (if e3 = 2 then (some ((1 : Int32), ω)) else none)) q1)
set_option maxHeartbeats 4000000 in
set_option maxRecDepth 100000 in
theorem okL_setting_LOut (l : Launch) (hlf : l.stackTraces = false) (cy : Nat → ClassId) (D : va_G) (B : Nat) (ek : EK) (h9 : ¬ cy 9 = 0) (p2 : Int32) (σ μ ω : Mem) (res : Int32 × Mem) (h : fL_setting_LOut p2 σ ω = some res) : CTW l cy D B ek yL_setting cL_setting 4 (some .int) [(0, 9, 12, 19)] ({ frames := 7, cells := 1, slots := 6, locals := 141 } : Room) 1 6 [.ref (B + oHB), .int p2, .ref (B + oLOut)] σ μ ω (some (.int res.1)) σ μ res.2 := by
  refine met_XW (own := "HostelBedsLaw") (by decide) rfl (Nat.le_of_ble_eq_true rfl) ?_
  intro p e s m args below meth c C hrT hlk htab
  have hret : ∀ (cells9 slots9 pc9 : Nat) (lcs9 : List (Nat × Value)), decode cL_setting pc9 = .ok (.ireturn, 1) → narrow .int (.int res.1) = .int res.1 → cells9 ≤ 1 → slots9 ≤ 6 → X p l e ({ frames := 7, cells := 1, slots := 6, locals := 141 } : Room) s m args below meth c 4 cy D B cells9 slots9 (vx_MQ below (QX cy D B (.inl (some (.int res.1))) σ μ res.2) (fun _ _ _ => False) args s 1 6 (aB B)) pc9 lcs9 [.int res.1] σ μ res.2 := fun cells9 slots9 pc9 lcs9 hd hn h1 h2 => x_zretX C hrT hlk hn hd h1 h2
  generalize (vx_MQ below (QX cy D B (.inl (some (.int res.1))) σ μ res.2) (fun _ _ _ => False) args s 1 6 (aB B)) = Q at hret ⊢
  obtain ⟨R, hR9⟩ : ∃ R : Room, R = ({ frames := 7, cells := 1, slots := 6, locals := 141 } : Room) := ⟨_, rfl⟩
  rw [← hR9] at hret ⊢
  unfold fL_setting_LOut at h
  show X p l e R s m args below meth c 4 cy D B 0 0 Q 0 [(0, .ref (B + oHB)), (1, .int p2), (2, .ref (B + oLOut))] [] σ μ ω
  refine x_aload_n C dL_setting_0 rfl 2 rfl ?_
  refine x_iconst C (v := 0) dL_setting_1 (by decide) ?_
  refine x_aload_n C dL_setting_2 rfl 0 rfl ?_
  refine x_iload_n C dL_setting_3 rfl 1 rfl ?_
  obtain ⟨q1, hk1, h⟩ := Option.bind_eq_some_iff.mp h
  refine x_callVX C (As := [.int p2]) (rest := [.int (0 : Int32), .ref (B + oLOut)]) (cells2 := 1) (slots2 := 6) (lw_g_mk tw_746 rfl) (lw_g_mk tw_747 rfl) (c_HB) (C1 := "HostelBeds") (T := TX5) (N := 12) (ci := 5) rfl (okX5_setting l hlf cy D B ek p2 σ μ ω _ hk1) rfl rfl (by rw [hR9]; decide) (lw_g_mk tw_748 rfl) (lw_g_mk tw_1 rfl) (by decide) rfl (lw_g_mk tw_745 rfl) rfl (Nat.le_of_ble_eq_true rfl) dL_setting_4 (by rw [hR9]; decide) rfl rfl (fun v2 hv3 => ?_) (fun k4 hv5 => ?_)
  · rcases q1 with x2 | e3
    · rw [Sum.elim_inl] at h
      have hv3 : (Sum.inl (some (Value.int x2)) : Option Value ⊕ Nat) = .inl v2 := hv3
      cases hv3
      refine x_i2l C dL_setting_7 ?_
      refine x_last C _ (c_LOut h9) (by decide : inb (0 : Int32) 1) dL_setting_8 (s_LOut h9) ?_
      refine x_goto C (tgt := 15) dL_setting_9 (by decide) ?_
      refine x_iconst C (v := 0) dL_setting_15 (by decide) ?_
      cases h
      exact hret _ _ _ _ dL_setting_16 rfl (by decide) (by decide)
    · cases hv3
  · rcases q1 with x2 | e3
    · cases hv5
    · rw [Sum.elim_inr] at h
      have hv5 : (Sum.inr e3 : Option Value ⊕ Nat) = .inr k4 := hv5
      cases hv5
      by_cases hc8 : k4 = 2
      · rw [if_pos hc8] at h
        subst hc8
        refine x_catch C htab [] ⟨0, 9, 12, 19⟩ [] rfl (fun z hz => by cases hz) (by decide +kernel) (by decide) (lw_g_mk tw_552 rfl) (by decide +kernel) (fun q9 => ?_)
        refine x_astore_n C [(3, .ref q9), (0, .ref (B + oHB)), (1, .int p2), (2, .ref (B + oLOut))] dL_setting_12 rfl (by decide) rfl ?_
        refine x_iconst C (v := 1) dL_setting_13 (by decide) ?_
        cases h
        exact hret _ _ _ _ dL_setting_14 rfl (by decide) (by decide)
      rw [if_neg hc8] at h
      cases h
def fL_room_LOut (p2 : Int32) (p3 : Int32) (σ : Mem) (ω : Mem) : Option (Int32 × Mem) := ((fX5_room p2 p3 σ).bind fun q1 => Sum.elim (fun x2 => (some ((0 : Int32), wJ ω 20 0 (0 : Int32).toNatClampNeg x2.toInt64))) (fun e3 => (if e3 = 3 then (some ((1 : Int32), ω)) else (if e3 = 2 then (some ((2 : Int32), ω)) else none))) q1)
set_option maxHeartbeats 4000000 in
set_option maxRecDepth 100000 in
theorem okL_room_LOut (l : Launch) (hlf : l.stackTraces = false) (cy : Nat → ClassId) (D : va_G) (B : Nat) (ek : EK) (h9 : ¬ cy 9 = 0) (p2 : Int32) (p3 : Int32) (σ μ ω : Mem) (res : Int32 × Mem) (h : fL_room_LOut p2 p3 σ ω = some res) : CTW l cy D B ek yL_room cL_room 5 (some .int) [(0, 10, 13, 36), (0, 10, 17, 19)] ({ frames := 8, cells := 2, slots := 12, locals := 164 } : Room) 2 12 [.ref (B + oHB), .int p2, .int p3, .ref (B + oLOut)] σ μ ω (some (.int res.1)) σ μ res.2 := by
  refine met_XW (own := "HostelBedsLaw") (by decide) rfl (Nat.le_of_ble_eq_true rfl) ?_
  intro p e s m args below meth c C hrT hlk htab
  have hret : ∀ (cells9 slots9 pc9 : Nat) (lcs9 : List (Nat × Value)), decode cL_room pc9 = .ok (.ireturn, 1) → narrow .int (.int res.1) = .int res.1 → cells9 ≤ 2 → slots9 ≤ 12 → X p l e ({ frames := 8, cells := 2, slots := 12, locals := 164 } : Room) s m args below meth c 5 cy D B cells9 slots9 (vx_MQ below (QX cy D B (.inl (some (.int res.1))) σ μ res.2) (fun _ _ _ => False) args s 2 12 (aB B)) pc9 lcs9 [.int res.1] σ μ res.2 := fun cells9 slots9 pc9 lcs9 hd hn h1 h2 => x_zretX C hrT hlk hn hd h1 h2
  generalize (vx_MQ below (QX cy D B (.inl (some (.int res.1))) σ μ res.2) (fun _ _ _ => False) args s 2 12 (aB B)) = Q at hret ⊢
  obtain ⟨R, hR9⟩ : ∃ R : Room, R = ({ frames := 8, cells := 2, slots := 12, locals := 164 } : Room) := ⟨_, rfl⟩
  rw [← hR9] at hret ⊢
  unfold fL_room_LOut at h
  show X p l e R s m args below meth c 5 cy D B 0 0 Q 0 [(0, .ref (B + oHB)), (1, .int p2), (2, .int p3), (3, .ref (B + oLOut))] [] σ μ ω
  refine x_aload_n C dL_room_0 rfl 3 rfl ?_
  refine x_iconst C (v := 0) dL_room_1 (by decide) ?_
  refine x_aload_n C dL_room_2 rfl 0 rfl ?_
  refine x_iload_n C dL_room_3 rfl 1 rfl ?_
  refine x_iload_n C dL_room_4 rfl 2 rfl ?_
  obtain ⟨q1, hk1, h⟩ := Option.bind_eq_some_iff.mp h
  refine x_callVX C (As := [.int p2, .int p3]) (rest := [.int (0 : Int32), .ref (B + oLOut)]) (cells2 := 2) (slots2 := 12) (lw_g_mk tw_755 rfl) (lw_g_mk tw_756 rfl) (c_HB) (C1 := "HostelBeds") (T := TX5) (N := 12) (ci := 5) rfl (okX5_room l hlf cy D B ek p2 p3 σ μ ω _ hk1) rfl rfl (by rw [hR9]; decide) (lw_g_mk tw_757 rfl) (lw_g_mk tw_1 rfl) (by decide) rfl (lw_g_mk tw_754 rfl) rfl (Nat.le_of_ble_eq_true rfl) dL_room_5 (by rw [hR9]; decide) rfl rfl (fun v2 hv3 => ?_) (fun k4 hv5 => ?_)
  · rcases q1 with x2 | e3
    · rw [Sum.elim_inl] at h
      have hv3 : (Sum.inl (some (Value.int x2)) : Option Value ⊕ Nat) = .inl v2 := hv3
      cases hv3
      refine x_i2l C dL_room_8 ?_
      refine x_last C _ (c_LOut h9) (by decide : inb (0 : Int32) 1) dL_room_9 (s_LOut h9) ?_
      refine x_goto C (tgt := 21) dL_room_10 (by decide) ?_
      refine x_iconst C (v := 0) dL_room_21 (by decide) ?_
      cases h
      exact hret _ _ _ _ dL_room_22 rfl (by decide) (by decide)
    · cases hv3
  · rcases q1 with x2 | e3
    · cases hv5
    · rw [Sum.elim_inr] at h
      have hv5 : (Sum.inr e3 : Option Value ⊕ Nat) = .inr k4 := hv5
      cases hv5
      by_cases hc8 : k4 = 3
      · rw [if_pos hc8] at h
        subst hc8
        refine x_catch C htab [] ⟨0, 10, 13, 36⟩ [⟨0, 10, 17, 19⟩] rfl (fun z hz => by cases hz) (by decide +kernel) (by decide) (lw_g_mk tw_753 rfl) (by decide +kernel) (fun q9 => ?_)
        refine x_astore C [(4, .ref q9), (0, .ref (B + oHB)), (1, .int p2), (2, .int p3), (3, .ref (B + oLOut))] dL_room_13 (by decide) rfl ?_
        refine x_iconst C (v := 1) dL_room_15 (by decide) ?_
        cases h
        exact hret _ _ _ _ dL_room_16 rfl (by decide) (by decide)
      rw [if_neg hc8] at h
      by_cases hc10 : k4 = 2
      · rw [if_pos hc10] at h
        subst hc10
        refine x_catch C htab [⟨0, 10, 13, 36⟩] ⟨0, 10, 17, 19⟩ [] rfl (fun z hz => by rcases List.mem_singleton.mp hz with rfl; exact ⟨by decide, "java/lang/IndexOutOfBoundsException", lw_g_mk tw_753 rfl, by decide +kernel⟩) (by decide +kernel) (by decide) (lw_g_mk tw_552 rfl) (by decide +kernel) (fun q11 => ?_)
        refine x_astore C [(4, .ref q11), (0, .ref (B + oHB)), (1, .int p2), (2, .int p3), (3, .ref (B + oLOut))] dL_room_17 (by decide) rfl ?_
        refine x_iconst C (v := 2) dL_room_19 (by decide) ?_
        cases h
        exact hret _ _ _ _ dL_room_20 rfl (by decide) (by decide)
      rw [if_neg hc10] at h
      cases h
def fL_booking_LOut (p2 : Int32) (p3 : Int32) (σ : Mem) (ω : Mem) : Option (Int32 × Mem) := ((fX5_booking p2 p3 σ).bind fun q1 => Sum.elim (fun x2 => (some ((0 : Int32), wJ ω 20 0 (0 : Int32).toNatClampNeg x2.toInt64))) (fun e3 => (if e3 = 3 then (some ((1 : Int32), ω)) else (if e3 = 2 then (some ((2 : Int32), ω)) else none))) q1)
set_option maxHeartbeats 4000000 in
set_option maxRecDepth 100000 in
theorem okL_booking_LOut (l : Launch) (hlf : l.stackTraces = false) (cy : Nat → ClassId) (D : va_G) (B : Nat) (ek : EK) (h9 : ¬ cy 9 = 0) (p2 : Int32) (p3 : Int32) (σ μ ω : Mem) (res : Int32 × Mem) (h : fL_booking_LOut p2 p3 σ ω = some res) : CTW l cy D B ek yL_booking cL_booking 5 (some .int) [(0, 10, 13, 36), (0, 10, 17, 19)] ({ frames := 8, cells := 2, slots := 12, locals := 164 } : Room) 2 12 [.ref (B + oHB), .int p2, .int p3, .ref (B + oLOut)] σ μ ω (some (.int res.1)) σ μ res.2 := by
  refine met_XW (own := "HostelBedsLaw") (by decide) rfl (Nat.le_of_ble_eq_true rfl) ?_
  intro p e s m args below meth c C hrT hlk htab
  have hret : ∀ (cells9 slots9 pc9 : Nat) (lcs9 : List (Nat × Value)), decode cL_booking pc9 = .ok (.ireturn, 1) → narrow .int (.int res.1) = .int res.1 → cells9 ≤ 2 → slots9 ≤ 12 → X p l e ({ frames := 8, cells := 2, slots := 12, locals := 164 } : Room) s m args below meth c 5 cy D B cells9 slots9 (vx_MQ below (QX cy D B (.inl (some (.int res.1))) σ μ res.2) (fun _ _ _ => False) args s 2 12 (aB B)) pc9 lcs9 [.int res.1] σ μ res.2 := fun cells9 slots9 pc9 lcs9 hd hn h1 h2 => x_zretX C hrT hlk hn hd h1 h2
  generalize (vx_MQ below (QX cy D B (.inl (some (.int res.1))) σ μ res.2) (fun _ _ _ => False) args s 2 12 (aB B)) = Q at hret ⊢
  obtain ⟨R, hR9⟩ : ∃ R : Room, R = ({ frames := 8, cells := 2, slots := 12, locals := 164 } : Room) := ⟨_, rfl⟩
  rw [← hR9] at hret ⊢
  unfold fL_booking_LOut at h
  show X p l e R s m args below meth c 5 cy D B 0 0 Q 0 [(0, .ref (B + oHB)), (1, .int p2), (2, .int p3), (3, .ref (B + oLOut))] [] σ μ ω
  refine x_aload_n C dL_booking_0 rfl 3 rfl ?_
  refine x_iconst C (v := 0) dL_booking_1 (by decide) ?_
  refine x_aload_n C dL_booking_2 rfl 0 rfl ?_
  refine x_iload_n C dL_booking_3 rfl 1 rfl ?_
  refine x_iload_n C dL_booking_4 rfl 2 rfl ?_
  obtain ⟨q1, hk1, h⟩ := Option.bind_eq_some_iff.mp h
  refine x_callVX C (As := [.int p2, .int p3]) (rest := [.int (0 : Int32), .ref (B + oLOut)]) (cells2 := 2) (slots2 := 12) (lw_g_mk tw_783 rfl) (lw_g_mk tw_784 rfl) (c_HB) (C1 := "HostelBeds") (T := TX5) (N := 12) (ci := 5) rfl (okX5_booking l hlf cy D B ek p2 p3 σ μ ω _ hk1) rfl rfl (by rw [hR9]; decide) (lw_g_mk tw_785 rfl) (lw_g_mk tw_1 rfl) (by decide) rfl (lw_g_mk tw_782 rfl) rfl (Nat.le_of_ble_eq_true rfl) dL_booking_5 (by rw [hR9]; decide) rfl rfl (fun v2 hv3 => ?_) (fun k4 hv5 => ?_)
  · rcases q1 with x2 | e3
    · rw [Sum.elim_inl] at h
      have hv3 : (Sum.inl (some (Value.int x2)) : Option Value ⊕ Nat) = .inl v2 := hv3
      cases hv3
      refine x_i2l C dL_booking_8 ?_
      refine x_last C _ (c_LOut h9) (by decide : inb (0 : Int32) 1) dL_booking_9 (s_LOut h9) ?_
      refine x_goto C (tgt := 21) dL_booking_10 (by decide) ?_
      refine x_iconst C (v := 0) dL_booking_21 (by decide) ?_
      cases h
      exact hret _ _ _ _ dL_booking_22 rfl (by decide) (by decide)
    · cases hv3
  · rcases q1 with x2 | e3
    · cases hv5
    · rw [Sum.elim_inr] at h
      have hv5 : (Sum.inr e3 : Option Value ⊕ Nat) = .inr k4 := hv5
      cases hv5
      by_cases hc8 : k4 = 3
      · rw [if_pos hc8] at h
        subst hc8
        refine x_catch C htab [] ⟨0, 10, 13, 36⟩ [⟨0, 10, 17, 19⟩] rfl (fun z hz => by cases hz) (by decide +kernel) (by decide) (lw_g_mk tw_753 rfl) (by decide +kernel) (fun q9 => ?_)
        refine x_astore C [(4, .ref q9), (0, .ref (B + oHB)), (1, .int p2), (2, .int p3), (3, .ref (B + oLOut))] dL_booking_13 (by decide) rfl ?_
        refine x_iconst C (v := 1) dL_booking_15 (by decide) ?_
        cases h
        exact hret _ _ _ _ dL_booking_16 rfl (by decide) (by decide)
      rw [if_neg hc8] at h
      by_cases hc10 : k4 = 2
      · rw [if_pos hc10] at h
        subst hc10
        refine x_catch C htab [⟨0, 10, 13, 36⟩] ⟨0, 10, 17, 19⟩ [] rfl (fun z hz => by rcases List.mem_singleton.mp hz with rfl; exact ⟨by decide, "java/lang/IndexOutOfBoundsException", lw_g_mk tw_753 rfl, by decide +kernel⟩) (by decide +kernel) (by decide) (lw_g_mk tw_552 rfl) (by decide +kernel) (fun q11 => ?_)
        refine x_astore C [(4, .ref q11), (0, .ref (B + oHB)), (1, .int p2), (2, .int p3), (3, .ref (B + oLOut))] dL_booking_17 (by decide) rfl ?_
        refine x_iconst C (v := 2) dL_booking_19 (by decide) ?_
        cases h
        exact hret _ _ _ _ dL_booking_20 rfl (by decide) (by decide)
      rw [if_neg hc10] at h
      cases h
def fL_find_LOut (p2 : Int32) (σ : Mem) (ω : Mem) : Option (Int32 × Mem × Mem) := ((fX5_find p2 σ).bind fun q1 => Sum.elim (fun x2 => (some ((0 : Int32), q1.2, wJ ω 20 0 (0 : Int32).toNatClampNeg x2.toInt64))) (fun e3 => (if e3 = 4 then (some ((1 : Int32), q1.2, ω)) else none)) q1.1)
set_option maxHeartbeats 4000000 in
set_option maxRecDepth 100000 in
theorem okL_find_LOut (l : Launch) (hlf : l.stackTraces = false) (cy : Nat → ClassId) (D : va_G) (B : Nat) (ek : EK) (h9 : ¬ cy 9 = 0) (p2 : Int32) (σ μ ω : Mem) (res : Int32 × Mem × Mem) (h : fL_find_LOut p2 σ ω = some res) : CTW l cy D B ek yL_find cL_find 4 (some .int) [(0, 9, 12, 45)] ({ frames := 7, cells := 1, slots := 6, locals := 144 } : Room) 1 6 [.ref (B + oHB), .int p2, .ref (B + oLOut)] σ μ ω (some (.int res.1)) res.2.1 μ res.2.2 := by
  refine met_XW (own := "HostelBedsLaw") (by decide) rfl (Nat.le_of_ble_eq_true rfl) ?_
  intro p e s m args below meth c C hrT hlk htab
  have hret : ∀ (cells9 slots9 pc9 : Nat) (lcs9 : List (Nat × Value)), decode cL_find pc9 = .ok (.ireturn, 1) → narrow .int (.int res.1) = .int res.1 → cells9 ≤ 1 → slots9 ≤ 6 → X p l e ({ frames := 7, cells := 1, slots := 6, locals := 144 } : Room) s m args below meth c 4 cy D B cells9 slots9 (vx_MQ below (QX cy D B (.inl (some (.int res.1))) res.2.1 μ res.2.2) (fun _ _ _ => False) args s 1 6 (aB B)) pc9 lcs9 [.int res.1] res.2.1 μ res.2.2 := fun cells9 slots9 pc9 lcs9 hd hn h1 h2 => x_zretX C hrT hlk hn hd h1 h2
  generalize (vx_MQ below (QX cy D B (.inl (some (.int res.1))) res.2.1 μ res.2.2) (fun _ _ _ => False) args s 1 6 (aB B)) = Q at hret ⊢
  obtain ⟨R, hR9⟩ : ∃ R : Room, R = ({ frames := 7, cells := 1, slots := 6, locals := 144 } : Room) := ⟨_, rfl⟩
  rw [← hR9] at hret ⊢
  unfold fL_find_LOut at h
  show X p l e R s m args below meth c 4 cy D B 0 0 Q 0 [(0, .ref (B + oHB)), (1, .int p2), (2, .ref (B + oLOut))] [] σ μ ω
  refine x_aload_n C dL_find_0 rfl 2 rfl ?_
  refine x_iconst C (v := 0) dL_find_1 (by decide) ?_
  refine x_aload_n C dL_find_2 rfl 0 rfl ?_
  refine x_iload_n C dL_find_3 rfl 1 rfl ?_
  obtain ⟨q1, hk1, h⟩ := Option.bind_eq_some_iff.mp h
  refine x_callVX C (As := [.int p2]) (rest := [.int (0 : Int32), .ref (B + oLOut)]) (cells2 := 1) (slots2 := 6) (lw_g_mk tw_797 rfl) (lw_g_mk tw_798 rfl) (c_HB) (C1 := "HostelBeds") (T := TX5) (N := 12) (ci := 5) rfl (okX5_find l hlf cy D B ek p2 σ μ ω _ hk1) rfl rfl (by rw [hR9]; decide) (lw_g_mk tw_799 rfl) (lw_g_mk tw_1 rfl) (by decide) rfl (lw_g_mk tw_796 rfl) rfl (Nat.le_of_ble_eq_true rfl) dL_find_4 (by rw [hR9]; decide) rfl rfl (fun v2 hv3 => ?_) (fun k4 hv5 => ?_)
  · rcases hq6 : q1.1 with x2 | e3
    · rw [hq6, Sum.elim_inl] at h
      rw [hq6] at hv3
      have hv3 : (Sum.inl (some (Value.int x2)) : Option Value ⊕ Nat) = .inl v2 := hv3
      cases hv3
      refine x_i2l C dL_find_7 ?_
      refine x_last C _ (c_LOut h9) (by decide : inb (0 : Int32) 1) dL_find_8 (s_LOut h9) ?_
      refine x_goto C (tgt := 15) dL_find_9 (by decide) ?_
      refine x_iconst C (v := 0) dL_find_15 (by decide) ?_
      cases h
      exact hret _ _ _ _ dL_find_16 rfl (by decide) (by decide)
    · rw [hq6] at hv3; cases hv3
  · rcases hq7 : q1.1 with x2 | e3
    · rw [hq7] at hv5; cases hv5
    · rw [hq7, Sum.elim_inr] at h
      rw [hq7] at hv5
      have hv5 : (Sum.inr e3 : Option Value ⊕ Nat) = .inr k4 := hv5
      cases hv5
      by_cases hc8 : k4 = 4
      · rw [if_pos hc8] at h
        subst hc8
        refine x_catch C htab [] ⟨0, 9, 12, 45⟩ [] rfl (fun z hz => by cases hz) (by decide +kernel) (by decide) (lw_g_mk tw_795 rfl) (by decide +kernel) (fun q9 => ?_)
        refine x_astore_n C [(3, .ref q9), (0, .ref (B + oHB)), (1, .int p2), (2, .ref (B + oLOut))] dL_find_12 rfl (by decide) rfl ?_
        refine x_iconst C (v := 1) dL_find_13 (by decide) ?_
        cases h
        exact hret _ _ _ _ dL_find_14 rfl (by decide) (by decide)
      rw [if_neg hc8] at h
      cases h
def fL_state_LOut (p2 : Int32) (σ : Mem) (ω : Mem) : Option (Int32 × Mem) := ((fX5_state p2 σ).bind fun q1 => Sum.elim (fun x2 => (some ((0 : Int32), wJ ω 20 0 (0 : Int32).toNatClampNeg x2.toInt64))) (fun e3 => (if e3 = 3 then (some ((1 : Int32), ω)) else none)) q1)
set_option maxHeartbeats 4000000 in
set_option maxRecDepth 100000 in
theorem okL_state_LOut (l : Launch) (hlf : l.stackTraces = false) (cy : Nat → ClassId) (D : va_G) (B : Nat) (ek : EK) (h9 : ¬ cy 9 = 0) (p2 : Int32) (σ μ ω : Mem) (res : Int32 × Mem) (h : fL_state_LOut p2 σ ω = some res) : CTW l cy D B ek yL_state cL_state 4 (some .int) [(0, 9, 12, 36)] ({ frames := 8, cells := 1, slots := 6, locals := 162 } : Room) 1 6 [.ref (B + oHB), .int p2, .ref (B + oLOut)] σ μ ω (some (.int res.1)) σ μ res.2 := by
  refine met_XW (own := "HostelBedsLaw") (by decide) rfl (Nat.le_of_ble_eq_true rfl) ?_
  intro p e s m args below meth c C hrT hlk htab
  have hret : ∀ (cells9 slots9 pc9 : Nat) (lcs9 : List (Nat × Value)), decode cL_state pc9 = .ok (.ireturn, 1) → narrow .int (.int res.1) = .int res.1 → cells9 ≤ 1 → slots9 ≤ 6 → X p l e ({ frames := 8, cells := 1, slots := 6, locals := 162 } : Room) s m args below meth c 4 cy D B cells9 slots9 (vx_MQ below (QX cy D B (.inl (some (.int res.1))) σ μ res.2) (fun _ _ _ => False) args s 1 6 (aB B)) pc9 lcs9 [.int res.1] σ μ res.2 := fun cells9 slots9 pc9 lcs9 hd hn h1 h2 => x_zretX C hrT hlk hn hd h1 h2
  generalize (vx_MQ below (QX cy D B (.inl (some (.int res.1))) σ μ res.2) (fun _ _ _ => False) args s 1 6 (aB B)) = Q at hret ⊢
  obtain ⟨R, hR9⟩ : ∃ R : Room, R = ({ frames := 8, cells := 1, slots := 6, locals := 162 } : Room) := ⟨_, rfl⟩
  rw [← hR9] at hret ⊢
  unfold fL_state_LOut at h
  show X p l e R s m args below meth c 4 cy D B 0 0 Q 0 [(0, .ref (B + oHB)), (1, .int p2), (2, .ref (B + oLOut))] [] σ μ ω
  refine x_aload_n C dL_state_0 rfl 2 rfl ?_
  refine x_iconst C (v := 0) dL_state_1 (by decide) ?_
  refine x_aload_n C dL_state_2 rfl 0 rfl ?_
  refine x_iload_n C dL_state_3 rfl 1 rfl ?_
  obtain ⟨q1, hk1, h⟩ := Option.bind_eq_some_iff.mp h
  refine x_callVX C (As := [.int p2]) (rest := [.int (0 : Int32), .ref (B + oLOut)]) (cells2 := 1) (slots2 := 6) (lw_g_mk tw_826 rfl) (lw_g_mk tw_827 rfl) (c_HB) (C1 := "HostelBeds") (T := TX5) (N := 12) (ci := 5) rfl (okX5_state l hlf cy D B ek p2 σ μ ω _ hk1) rfl rfl (by rw [hR9]; decide) (lw_g_mk tw_828 rfl) (lw_g_mk tw_1 rfl) (by decide) rfl (lw_g_mk tw_825 rfl) rfl (Nat.le_of_ble_eq_true rfl) dL_state_4 (by rw [hR9]; decide) rfl rfl (fun v2 hv3 => ?_) (fun k4 hv5 => ?_)
  · rcases q1 with x2 | e3
    · rw [Sum.elim_inl] at h
      have hv3 : (Sum.inl (some (Value.int x2)) : Option Value ⊕ Nat) = .inl v2 := hv3
      cases hv3
      refine x_i2l C dL_state_7 ?_
      refine x_last C _ (c_LOut h9) (by decide : inb (0 : Int32) 1) dL_state_8 (s_LOut h9) ?_
      refine x_goto C (tgt := 15) dL_state_9 (by decide) ?_
      refine x_iconst C (v := 0) dL_state_15 (by decide) ?_
      cases h
      exact hret _ _ _ _ dL_state_16 rfl (by decide) (by decide)
    · cases hv3
  · rcases q1 with x2 | e3
    · cases hv5
    · rw [Sum.elim_inr] at h
      have hv5 : (Sum.inr e3 : Option Value ⊕ Nat) = .inr k4 := hv5
      cases hv5
      by_cases hc8 : k4 = 3
      · rw [if_pos hc8] at h
        subst hc8
        refine x_catch C htab [] ⟨0, 9, 12, 36⟩ [] rfl (fun z hz => by cases hz) (by decide +kernel) (by decide) (lw_g_mk tw_753 rfl) (by decide +kernel) (fun q9 => ?_)
        refine x_astore_n C [(3, .ref q9), (0, .ref (B + oHB)), (1, .int p2), (2, .ref (B + oLOut))] dL_state_12 rfl (by decide) rfl ?_
        refine x_iconst C (v := 1) dL_state_13 (by decide) ?_
        cases h
        exact hret _ _ _ _ dL_state_14 rfl (by decide) (by decide)
      rw [if_neg hc8] at h
      cases h
def fL_waiting_LOut (p2 : Int32) (σ : Mem) (ω : Mem) : Option (Int32 × Mem) := ((fX5_waiting p2 σ).bind fun q1 => Sum.elim (fun x2 => (some ((0 : Int32), wJ ω 20 0 (0 : Int32).toNatClampNeg x2.toInt64))) (fun e3 => (if e3 = 3 then (some ((1 : Int32), ω)) else none)) q1)
set_option maxHeartbeats 4000000 in
set_option maxRecDepth 100000 in
theorem okL_waiting_LOut (l : Launch) (hlf : l.stackTraces = false) (cy : Nat → ClassId) (D : va_G) (B : Nat) (ek : EK) (h9 : ¬ cy 9 = 0) (p2 : Int32) (σ μ ω : Mem) (res : Int32 × Mem) (h : fL_waiting_LOut p2 σ ω = some res) : CTW l cy D B ek yL_waiting cL_waiting 4 (some .int) [(0, 9, 12, 36)] ({ frames := 7, cells := 1, slots := 6, locals := 141 } : Room) 1 6 [.ref (B + oHB), .int p2, .ref (B + oLOut)] σ μ ω (some (.int res.1)) σ μ res.2 := by
  refine met_XW (own := "HostelBedsLaw") (by decide) rfl (Nat.le_of_ble_eq_true rfl) ?_
  intro p e s m args below meth c C hrT hlk htab
  have hret : ∀ (cells9 slots9 pc9 : Nat) (lcs9 : List (Nat × Value)), decode cL_waiting pc9 = .ok (.ireturn, 1) → narrow .int (.int res.1) = .int res.1 → cells9 ≤ 1 → slots9 ≤ 6 → X p l e ({ frames := 7, cells := 1, slots := 6, locals := 141 } : Room) s m args below meth c 4 cy D B cells9 slots9 (vx_MQ below (QX cy D B (.inl (some (.int res.1))) σ μ res.2) (fun _ _ _ => False) args s 1 6 (aB B)) pc9 lcs9 [.int res.1] σ μ res.2 := fun cells9 slots9 pc9 lcs9 hd hn h1 h2 => x_zretX C hrT hlk hn hd h1 h2
  generalize (vx_MQ below (QX cy D B (.inl (some (.int res.1))) σ μ res.2) (fun _ _ _ => False) args s 1 6 (aB B)) = Q at hret ⊢
  obtain ⟨R, hR9⟩ : ∃ R : Room, R = ({ frames := 7, cells := 1, slots := 6, locals := 141 } : Room) := ⟨_, rfl⟩
  rw [← hR9] at hret ⊢
  unfold fL_waiting_LOut at h
  show X p l e R s m args below meth c 4 cy D B 0 0 Q 0 [(0, .ref (B + oHB)), (1, .int p2), (2, .ref (B + oLOut))] [] σ μ ω
  refine x_aload_n C dL_waiting_0 rfl 2 rfl ?_
  refine x_iconst C (v := 0) dL_waiting_1 (by decide) ?_
  refine x_aload_n C dL_waiting_2 rfl 0 rfl ?_
  refine x_iload_n C dL_waiting_3 rfl 1 rfl ?_
  obtain ⟨q1, hk1, h⟩ := Option.bind_eq_some_iff.mp h
  refine x_callVX C (As := [.int p2]) (rest := [.int (0 : Int32), .ref (B + oLOut)]) (cells2 := 1) (slots2 := 6) (lw_g_mk tw_833 rfl) (lw_g_mk tw_834 rfl) (c_HB) (C1 := "HostelBeds") (T := TX5) (N := 12) (ci := 5) rfl (okX5_waiting l hlf cy D B ek p2 σ μ ω _ hk1) rfl rfl (by rw [hR9]; decide) (lw_g_mk tw_835 rfl) (lw_g_mk tw_1 rfl) (by decide) rfl (lw_g_mk tw_832 rfl) rfl (Nat.le_of_ble_eq_true rfl) dL_waiting_4 (by rw [hR9]; decide) rfl rfl (fun v2 hv3 => ?_) (fun k4 hv5 => ?_)
  · rcases q1 with x2 | e3
    · rw [Sum.elim_inl] at h
      have hv3 : (Sum.inl (some (Value.int x2)) : Option Value ⊕ Nat) = .inl v2 := hv3
      cases hv3
      refine x_i2l C dL_waiting_7 ?_
      refine x_last C _ (c_LOut h9) (by decide : inb (0 : Int32) 1) dL_waiting_8 (s_LOut h9) ?_
      refine x_goto C (tgt := 15) dL_waiting_9 (by decide) ?_
      refine x_iconst C (v := 0) dL_waiting_15 (by decide) ?_
      cases h
      exact hret _ _ _ _ dL_waiting_16 rfl (by decide) (by decide)
    · cases hv3
  · rcases q1 with x2 | e3
    · cases hv5
    · rw [Sum.elim_inr] at h
      have hv5 : (Sum.inr e3 : Option Value ⊕ Nat) = .inr k4 := hv5
      cases hv5
      by_cases hc8 : k4 = 3
      · rw [if_pos hc8] at h
        subst hc8
        refine x_catch C htab [] ⟨0, 9, 12, 36⟩ [] rfl (fun z hz => by cases hz) (by decide +kernel) (by decide) (lw_g_mk tw_753 rfl) (by decide +kernel) (fun q9 => ?_)
        refine x_astore_n C [(3, .ref q9), (0, .ref (B + oHB)), (1, .int p2), (2, .ref (B + oLOut))] dL_waiting_12 rfl (by decide) rfl ?_
        refine x_iconst C (v := 1) dL_waiting_13 (by decide) ?_
        cases h
        exact hret _ _ _ _ dL_waiting_14 rfl (by decide) (by decide)
      rw [if_neg hc8] at h
      cases h
def fL_placed_LOut (p2 : Int32) (σ : Mem) (ω : Mem) : Option (Int32 × Mem) := ((fX5_placed p2 σ).bind fun q1 => Sum.elim (fun x2 => (some ((0 : Int32), wJ ω 20 0 (0 : Int32).toNatClampNeg x2.toInt64))) (fun e3 => (if e3 = 3 then (some ((1 : Int32), ω)) else none)) q1)
set_option maxHeartbeats 4000000 in
set_option maxRecDepth 100000 in
theorem okL_placed_LOut (l : Launch) (hlf : l.stackTraces = false) (cy : Nat → ClassId) (D : va_G) (B : Nat) (ek : EK) (h9 : ¬ cy 9 = 0) (p2 : Int32) (σ μ ω : Mem) (res : Int32 × Mem) (h : fL_placed_LOut p2 σ ω = some res) : CTW l cy D B ek yL_placed cL_placed 4 (some .int) [(0, 9, 12, 36)] ({ frames := 8, cells := 1, slots := 6, locals := 162 } : Room) 1 6 [.ref (B + oHB), .int p2, .ref (B + oLOut)] σ μ ω (some (.int res.1)) σ μ res.2 := by
  refine met_XW (own := "HostelBedsLaw") (by decide) rfl (Nat.le_of_ble_eq_true rfl) ?_
  intro p e s m args below meth c C hrT hlk htab
  have hret : ∀ (cells9 slots9 pc9 : Nat) (lcs9 : List (Nat × Value)), decode cL_placed pc9 = .ok (.ireturn, 1) → narrow .int (.int res.1) = .int res.1 → cells9 ≤ 1 → slots9 ≤ 6 → X p l e ({ frames := 8, cells := 1, slots := 6, locals := 162 } : Room) s m args below meth c 4 cy D B cells9 slots9 (vx_MQ below (QX cy D B (.inl (some (.int res.1))) σ μ res.2) (fun _ _ _ => False) args s 1 6 (aB B)) pc9 lcs9 [.int res.1] σ μ res.2 := fun cells9 slots9 pc9 lcs9 hd hn h1 h2 => x_zretX C hrT hlk hn hd h1 h2
  generalize (vx_MQ below (QX cy D B (.inl (some (.int res.1))) σ μ res.2) (fun _ _ _ => False) args s 1 6 (aB B)) = Q at hret ⊢
  obtain ⟨R, hR9⟩ : ∃ R : Room, R = ({ frames := 8, cells := 1, slots := 6, locals := 162 } : Room) := ⟨_, rfl⟩
  rw [← hR9] at hret ⊢
  unfold fL_placed_LOut at h
  show X p l e R s m args below meth c 4 cy D B 0 0 Q 0 [(0, .ref (B + oHB)), (1, .int p2), (2, .ref (B + oLOut))] [] σ μ ω
  refine x_aload_n C dL_placed_0 rfl 2 rfl ?_
  refine x_iconst C (v := 0) dL_placed_1 (by decide) ?_
  refine x_aload_n C dL_placed_2 rfl 0 rfl ?_
  refine x_iload_n C dL_placed_3 rfl 1 rfl ?_
  obtain ⟨q1, hk1, h⟩ := Option.bind_eq_some_iff.mp h
  refine x_callVX C (As := [.int p2]) (rest := [.int (0 : Int32), .ref (B + oLOut)]) (cells2 := 1) (slots2 := 6) (lw_g_mk tw_841 rfl) (lw_g_mk tw_842 rfl) (c_HB) (C1 := "HostelBeds") (T := TX5) (N := 12) (ci := 5) rfl (okX5_placed l hlf cy D B ek p2 σ μ ω _ hk1) rfl rfl (by rw [hR9]; decide) (lw_g_mk tw_843 rfl) (lw_g_mk tw_1 rfl) (by decide) rfl (lw_g_mk tw_840 rfl) rfl (Nat.le_of_ble_eq_true rfl) dL_placed_4 (by rw [hR9]; decide) rfl rfl (fun v2 hv3 => ?_) (fun k4 hv5 => ?_)
  · rcases q1 with x2 | e3
    · rw [Sum.elim_inl] at h
      have hv3 : (Sum.inl (some (Value.int x2)) : Option Value ⊕ Nat) = .inl v2 := hv3
      cases hv3
      refine x_i2l C dL_placed_7 ?_
      refine x_last C _ (c_LOut h9) (by decide : inb (0 : Int32) 1) dL_placed_8 (s_LOut h9) ?_
      refine x_goto C (tgt := 15) dL_placed_9 (by decide) ?_
      refine x_iconst C (v := 0) dL_placed_15 (by decide) ?_
      cases h
      exact hret _ _ _ _ dL_placed_16 rfl (by decide) (by decide)
    · cases hv3
  · rcases q1 with x2 | e3
    · cases hv5
    · rw [Sum.elim_inr] at h
      have hv5 : (Sum.inr e3 : Option Value ⊕ Nat) = .inr k4 := hv5
      cases hv5
      by_cases hc8 : k4 = 3
      · rw [if_pos hc8] at h
        subst hc8
        refine x_catch C htab [] ⟨0, 9, 12, 36⟩ [] rfl (fun z hz => by cases hz) (by decide +kernel) (by decide) (lw_g_mk tw_753 rfl) (by decide +kernel) (fun q9 => ?_)
        refine x_astore_n C [(3, .ref q9), (0, .ref (B + oHB)), (1, .int p2), (2, .ref (B + oLOut))] dL_placed_12 rfl (by decide) rfl ?_
        refine x_iconst C (v := 1) dL_placed_13 (by decide) ?_
        cases h
        exact hret _ _ _ _ dL_placed_14 rfl (by decide) (by decide)
      rw [if_neg hc8] at h
      cases h
def fL_roomsOf_LOut (p2 : Int32) (σ : Mem) (ω : Mem) : Option (Int32 × Mem) := ((fX5_roomsOf p2 σ).bind fun q1 => Sum.elim (fun x2 => (some ((0 : Int32), wJ ω 20 0 (0 : Int32).toNatClampNeg x2.toInt64))) (fun e3 => (if e3 = 3 then (some ((1 : Int32), ω)) else none)) q1)
set_option maxHeartbeats 4000000 in
set_option maxRecDepth 100000 in
theorem okL_roomsOf_LOut (l : Launch) (hlf : l.stackTraces = false) (cy : Nat → ClassId) (D : va_G) (B : Nat) (ek : EK) (h9 : ¬ cy 9 = 0) (p2 : Int32) (σ μ ω : Mem) (res : Int32 × Mem) (h : fL_roomsOf_LOut p2 σ ω = some res) : CTW l cy D B ek yL_roomsOf cL_roomsOf 4 (some .int) [(0, 9, 12, 36)] ({ frames := 8, cells := 1, slots := 6, locals := 162 } : Room) 1 6 [.ref (B + oHB), .int p2, .ref (B + oLOut)] σ μ ω (some (.int res.1)) σ μ res.2 := by
  refine met_XW (own := "HostelBedsLaw") (by decide) rfl (Nat.le_of_ble_eq_true rfl) ?_
  intro p e s m args below meth c C hrT hlk htab
  have hret : ∀ (cells9 slots9 pc9 : Nat) (lcs9 : List (Nat × Value)), decode cL_roomsOf pc9 = .ok (.ireturn, 1) → narrow .int (.int res.1) = .int res.1 → cells9 ≤ 1 → slots9 ≤ 6 → X p l e ({ frames := 8, cells := 1, slots := 6, locals := 162 } : Room) s m args below meth c 4 cy D B cells9 slots9 (vx_MQ below (QX cy D B (.inl (some (.int res.1))) σ μ res.2) (fun _ _ _ => False) args s 1 6 (aB B)) pc9 lcs9 [.int res.1] σ μ res.2 := fun cells9 slots9 pc9 lcs9 hd hn h1 h2 => x_zretX C hrT hlk hn hd h1 h2
  generalize (vx_MQ below (QX cy D B (.inl (some (.int res.1))) σ μ res.2) (fun _ _ _ => False) args s 1 6 (aB B)) = Q at hret ⊢
  obtain ⟨R, hR9⟩ : ∃ R : Room, R = ({ frames := 8, cells := 1, slots := 6, locals := 162 } : Room) := ⟨_, rfl⟩
  rw [← hR9] at hret ⊢
  unfold fL_roomsOf_LOut at h
  show X p l e R s m args below meth c 4 cy D B 0 0 Q 0 [(0, .ref (B + oHB)), (1, .int p2), (2, .ref (B + oLOut))] [] σ μ ω
  refine x_aload_n C dL_roomsOf_0 rfl 2 rfl ?_
  refine x_iconst C (v := 0) dL_roomsOf_1 (by decide) ?_
  refine x_aload_n C dL_roomsOf_2 rfl 0 rfl ?_
  refine x_iload_n C dL_roomsOf_3 rfl 1 rfl ?_
  obtain ⟨q1, hk1, h⟩ := Option.bind_eq_some_iff.mp h
  refine x_callVX C (As := [.int p2]) (rest := [.int (0 : Int32), .ref (B + oLOut)]) (cells2 := 1) (slots2 := 6) (lw_g_mk tw_848 rfl) (lw_g_mk tw_849 rfl) (c_HB) (C1 := "HostelBeds") (T := TX5) (N := 12) (ci := 5) rfl (okX5_roomsOf l hlf cy D B ek p2 σ μ ω _ hk1) rfl rfl (by rw [hR9]; decide) (lw_g_mk tw_850 rfl) (lw_g_mk tw_1 rfl) (by decide) rfl (lw_g_mk tw_847 rfl) rfl (Nat.le_of_ble_eq_true rfl) dL_roomsOf_4 (by rw [hR9]; decide) rfl rfl (fun v2 hv3 => ?_) (fun k4 hv5 => ?_)
  · rcases q1 with x2 | e3
    · rw [Sum.elim_inl] at h
      have hv3 : (Sum.inl (some (Value.int x2)) : Option Value ⊕ Nat) = .inl v2 := hv3
      cases hv3
      refine x_i2l C dL_roomsOf_7 ?_
      refine x_last C _ (c_LOut h9) (by decide : inb (0 : Int32) 1) dL_roomsOf_8 (s_LOut h9) ?_
      refine x_goto C (tgt := 15) dL_roomsOf_9 (by decide) ?_
      refine x_iconst C (v := 0) dL_roomsOf_15 (by decide) ?_
      cases h
      exact hret _ _ _ _ dL_roomsOf_16 rfl (by decide) (by decide)
    · cases hv3
  · rcases q1 with x2 | e3
    · cases hv5
    · rw [Sum.elim_inr] at h
      have hv5 : (Sum.inr e3 : Option Value ⊕ Nat) = .inr k4 := hv5
      cases hv5
      by_cases hc8 : k4 = 3
      · rw [if_pos hc8] at h
        subst hc8
        refine x_catch C htab [] ⟨0, 9, 12, 36⟩ [] rfl (fun z hz => by cases hz) (by decide +kernel) (by decide) (lw_g_mk tw_753 rfl) (by decide +kernel) (fun q9 => ?_)
        refine x_astore_n C [(3, .ref q9), (0, .ref (B + oHB)), (1, .int p2), (2, .ref (B + oLOut))] dL_roomsOf_12 rfl (by decide) rfl ?_
        refine x_iconst C (v := 1) dL_roomsOf_13 (by decide) ?_
        cases h
        exact hret _ _ _ _ dL_roomsOf_14 rfl (by decide) (by decide)
      rw [if_neg hc8] at h
      cases h
def fL_roomOf_LOut (p2 : Int32) (p3 : Int32) (σ : Mem) (ω : Mem) : Option (Int32 × Mem) := ((fX5_roomOf p2 p3 σ).bind fun q1 => Sum.elim (fun x2 => (some ((0 : Int32), wJ ω 20 0 (0 : Int32).toNatClampNeg x2.toInt64))) (fun e3 => (if e3 = 3 then (some ((1 : Int32), ω)) else (if e3 = 4 then (some ((2 : Int32), ω)) else none))) q1)
set_option maxHeartbeats 4000000 in
set_option maxRecDepth 100000 in
theorem okL_roomOf_LOut (l : Launch) (hlf : l.stackTraces = false) (cy : Nat → ClassId) (D : va_G) (B : Nat) (ek : EK) (h9 : ¬ cy 9 = 0) (p2 : Int32) (p3 : Int32) (σ μ ω : Mem) (res : Int32 × Mem) (h : fL_roomOf_LOut p2 p3 σ ω = some res) : CTW l cy D B ek yL_roomOf cL_roomOf 5 (some .int) [(0, 10, 13, 36), (0, 10, 17, 45)] ({ frames := 9, cells := 2, slots := 12, locals := 185 } : Room) 2 12 [.ref (B + oHB), .int p2, .int p3, .ref (B + oLOut)] σ μ ω (some (.int res.1)) σ μ res.2 := by
  refine met_XW (own := "HostelBedsLaw") (by decide) rfl (Nat.le_of_ble_eq_true rfl) ?_
  intro p e s m args below meth c C hrT hlk htab
  have hret : ∀ (cells9 slots9 pc9 : Nat) (lcs9 : List (Nat × Value)), decode cL_roomOf pc9 = .ok (.ireturn, 1) → narrow .int (.int res.1) = .int res.1 → cells9 ≤ 2 → slots9 ≤ 12 → X p l e ({ frames := 9, cells := 2, slots := 12, locals := 185 } : Room) s m args below meth c 5 cy D B cells9 slots9 (vx_MQ below (QX cy D B (.inl (some (.int res.1))) σ μ res.2) (fun _ _ _ => False) args s 2 12 (aB B)) pc9 lcs9 [.int res.1] σ μ res.2 := fun cells9 slots9 pc9 lcs9 hd hn h1 h2 => x_zretX C hrT hlk hn hd h1 h2
  generalize (vx_MQ below (QX cy D B (.inl (some (.int res.1))) σ μ res.2) (fun _ _ _ => False) args s 2 12 (aB B)) = Q at hret ⊢
  obtain ⟨R, hR9⟩ : ∃ R : Room, R = ({ frames := 9, cells := 2, slots := 12, locals := 185 } : Room) := ⟨_, rfl⟩
  rw [← hR9] at hret ⊢
  unfold fL_roomOf_LOut at h
  show X p l e R s m args below meth c 5 cy D B 0 0 Q 0 [(0, .ref (B + oHB)), (1, .int p2), (2, .int p3), (3, .ref (B + oLOut))] [] σ μ ω
  refine x_aload_n C dL_roomOf_0 rfl 3 rfl ?_
  refine x_iconst C (v := 0) dL_roomOf_1 (by decide) ?_
  refine x_aload_n C dL_roomOf_2 rfl 0 rfl ?_
  refine x_iload_n C dL_roomOf_3 rfl 1 rfl ?_
  refine x_iload_n C dL_roomOf_4 rfl 2 rfl ?_
  obtain ⟨q1, hk1, h⟩ := Option.bind_eq_some_iff.mp h
  refine x_callVX C (As := [.int p2, .int p3]) (rest := [.int (0 : Int32), .ref (B + oLOut)]) (cells2 := 2) (slots2 := 12) (lw_g_mk tw_855 rfl) (lw_g_mk tw_856 rfl) (c_HB) (C1 := "HostelBeds") (T := TX5) (N := 12) (ci := 5) rfl (okX5_roomOf l hlf cy D B ek p2 p3 σ μ ω _ hk1) rfl rfl (by rw [hR9]; decide) (lw_g_mk tw_857 rfl) (lw_g_mk tw_1 rfl) (by decide) rfl (lw_g_mk tw_854 rfl) rfl (Nat.le_of_ble_eq_true rfl) dL_roomOf_5 (by rw [hR9]; decide) rfl rfl (fun v2 hv3 => ?_) (fun k4 hv5 => ?_)
  · rcases q1 with x2 | e3
    · rw [Sum.elim_inl] at h
      have hv3 : (Sum.inl (some (Value.int x2)) : Option Value ⊕ Nat) = .inl v2 := hv3
      cases hv3
      refine x_i2l C dL_roomOf_8 ?_
      refine x_last C _ (c_LOut h9) (by decide : inb (0 : Int32) 1) dL_roomOf_9 (s_LOut h9) ?_
      refine x_goto C (tgt := 21) dL_roomOf_10 (by decide) ?_
      refine x_iconst C (v := 0) dL_roomOf_21 (by decide) ?_
      cases h
      exact hret _ _ _ _ dL_roomOf_22 rfl (by decide) (by decide)
    · cases hv3
  · rcases q1 with x2 | e3
    · cases hv5
    · rw [Sum.elim_inr] at h
      have hv5 : (Sum.inr e3 : Option Value ⊕ Nat) = .inr k4 := hv5
      cases hv5
      by_cases hc8 : k4 = 3
      · rw [if_pos hc8] at h
        subst hc8
        refine x_catch C htab [] ⟨0, 10, 13, 36⟩ [⟨0, 10, 17, 45⟩] rfl (fun z hz => by cases hz) (by decide +kernel) (by decide) (lw_g_mk tw_753 rfl) (by decide +kernel) (fun q9 => ?_)
        refine x_astore C [(4, .ref q9), (0, .ref (B + oHB)), (1, .int p2), (2, .int p3), (3, .ref (B + oLOut))] dL_roomOf_13 (by decide) rfl ?_
        refine x_iconst C (v := 1) dL_roomOf_15 (by decide) ?_
        cases h
        exact hret _ _ _ _ dL_roomOf_16 rfl (by decide) (by decide)
      rw [if_neg hc8] at h
      by_cases hc10 : k4 = 4
      · rw [if_pos hc10] at h
        subst hc10
        refine x_catch C htab [⟨0, 10, 13, 36⟩] ⟨0, 10, 17, 45⟩ [] rfl (fun z hz => by rcases List.mem_singleton.mp hz with rfl; exact ⟨by decide, "java/lang/IndexOutOfBoundsException", lw_g_mk tw_753 rfl, by decide +kernel⟩) (by decide +kernel) (by decide) (lw_g_mk tw_795 rfl) (by decide +kernel) (fun q11 => ?_)
        refine x_astore C [(4, .ref q11), (0, .ref (B + oHB)), (1, .int p2), (2, .int p3), (3, .ref (B + oLOut))] dL_roomOf_17 (by decide) rfl ?_
        refine x_iconst C (v := 2) dL_roomOf_19 (by decide) ?_
        cases h
        exact hret _ _ _ _ dL_roomOf_20 rfl (by decide) (by decide)
      rw [if_neg hc10] at h
      cases h
def fL_bedOf_LOut (p2 : Int32) (p3 : Int32) (σ : Mem) (ω : Mem) : Option (Int32 × Mem) := ((fX5_bedOf p2 p3 σ).bind fun q1 => Sum.elim (fun x2 => (some ((0 : Int32), wJ ω 20 0 (0 : Int32).toNatClampNeg x2.toInt64))) (fun e3 => (if e3 = 3 then (some ((1 : Int32), ω)) else (if e3 = 4 then (some ((2 : Int32), ω)) else none))) q1)
set_option maxHeartbeats 4000000 in
set_option maxRecDepth 100000 in
theorem okL_bedOf_LOut (l : Launch) (hlf : l.stackTraces = false) (cy : Nat → ClassId) (D : va_G) (B : Nat) (ek : EK) (h9 : ¬ cy 9 = 0) (p2 : Int32) (p3 : Int32) (σ μ ω : Mem) (res : Int32 × Mem) (h : fL_bedOf_LOut p2 p3 σ ω = some res) : CTW l cy D B ek yL_bedOf cL_bedOf 5 (some .int) [(0, 10, 13, 36), (0, 10, 17, 45)] ({ frames := 9, cells := 2, slots := 12, locals := 185 } : Room) 2 12 [.ref (B + oHB), .int p2, .int p3, .ref (B + oLOut)] σ μ ω (some (.int res.1)) σ μ res.2 := by
  refine met_XW (own := "HostelBedsLaw") (by decide) rfl (Nat.le_of_ble_eq_true rfl) ?_
  intro p e s m args below meth c C hrT hlk htab
  have hret : ∀ (cells9 slots9 pc9 : Nat) (lcs9 : List (Nat × Value)), decode cL_bedOf pc9 = .ok (.ireturn, 1) → narrow .int (.int res.1) = .int res.1 → cells9 ≤ 2 → slots9 ≤ 12 → X p l e ({ frames := 9, cells := 2, slots := 12, locals := 185 } : Room) s m args below meth c 5 cy D B cells9 slots9 (vx_MQ below (QX cy D B (.inl (some (.int res.1))) σ μ res.2) (fun _ _ _ => False) args s 2 12 (aB B)) pc9 lcs9 [.int res.1] σ μ res.2 := fun cells9 slots9 pc9 lcs9 hd hn h1 h2 => x_zretX C hrT hlk hn hd h1 h2
  generalize (vx_MQ below (QX cy D B (.inl (some (.int res.1))) σ μ res.2) (fun _ _ _ => False) args s 2 12 (aB B)) = Q at hret ⊢
  obtain ⟨R, hR9⟩ : ∃ R : Room, R = ({ frames := 9, cells := 2, slots := 12, locals := 185 } : Room) := ⟨_, rfl⟩
  rw [← hR9] at hret ⊢
  unfold fL_bedOf_LOut at h
  show X p l e R s m args below meth c 5 cy D B 0 0 Q 0 [(0, .ref (B + oHB)), (1, .int p2), (2, .int p3), (3, .ref (B + oLOut))] [] σ μ ω
  refine x_aload_n C dL_bedOf_0 rfl 3 rfl ?_
  refine x_iconst C (v := 0) dL_bedOf_1 (by decide) ?_
  refine x_aload_n C dL_bedOf_2 rfl 0 rfl ?_
  refine x_iload_n C dL_bedOf_3 rfl 1 rfl ?_
  refine x_iload_n C dL_bedOf_4 rfl 2 rfl ?_
  obtain ⟨q1, hk1, h⟩ := Option.bind_eq_some_iff.mp h
  refine x_callVX C (As := [.int p2, .int p3]) (rest := [.int (0 : Int32), .ref (B + oLOut)]) (cells2 := 2) (slots2 := 12) (lw_g_mk tw_872 rfl) (lw_g_mk tw_873 rfl) (c_HB) (C1 := "HostelBeds") (T := TX5) (N := 12) (ci := 5) rfl (okX5_bedOf l hlf cy D B ek p2 p3 σ μ ω _ hk1) rfl rfl (by rw [hR9]; decide) (lw_g_mk tw_874 rfl) (lw_g_mk tw_1 rfl) (by decide) rfl (lw_g_mk tw_871 rfl) rfl (Nat.le_of_ble_eq_true rfl) dL_bedOf_5 (by rw [hR9]; decide) rfl rfl (fun v2 hv3 => ?_) (fun k4 hv5 => ?_)
  · rcases q1 with x2 | e3
    · rw [Sum.elim_inl] at h
      have hv3 : (Sum.inl (some (Value.int x2)) : Option Value ⊕ Nat) = .inl v2 := hv3
      cases hv3
      refine x_i2l C dL_bedOf_8 ?_
      refine x_last C _ (c_LOut h9) (by decide : inb (0 : Int32) 1) dL_bedOf_9 (s_LOut h9) ?_
      refine x_goto C (tgt := 21) dL_bedOf_10 (by decide) ?_
      refine x_iconst C (v := 0) dL_bedOf_21 (by decide) ?_
      cases h
      exact hret _ _ _ _ dL_bedOf_22 rfl (by decide) (by decide)
    · cases hv3
  · rcases q1 with x2 | e3
    · cases hv5
    · rw [Sum.elim_inr] at h
      have hv5 : (Sum.inr e3 : Option Value ⊕ Nat) = .inr k4 := hv5
      cases hv5
      by_cases hc8 : k4 = 3
      · rw [if_pos hc8] at h
        subst hc8
        refine x_catch C htab [] ⟨0, 10, 13, 36⟩ [⟨0, 10, 17, 45⟩] rfl (fun z hz => by cases hz) (by decide +kernel) (by decide) (lw_g_mk tw_753 rfl) (by decide +kernel) (fun q9 => ?_)
        refine x_astore C [(4, .ref q9), (0, .ref (B + oHB)), (1, .int p2), (2, .int p3), (3, .ref (B + oLOut))] dL_bedOf_13 (by decide) rfl ?_
        refine x_iconst C (v := 1) dL_bedOf_15 (by decide) ?_
        cases h
        exact hret _ _ _ _ dL_bedOf_16 rfl (by decide) (by decide)
      rw [if_neg hc8] at h
      by_cases hc10 : k4 = 4
      · rw [if_pos hc10] at h
        subst hc10
        refine x_catch C htab [⟨0, 10, 13, 36⟩] ⟨0, 10, 17, 45⟩ [] rfl (fun z hz => by rcases List.mem_singleton.mp hz with rfl; exact ⟨by decide, "java/lang/IndexOutOfBoundsException", lw_g_mk tw_753 rfl, by decide +kernel⟩) (by decide +kernel) (by decide) (lw_g_mk tw_795 rfl) (by decide +kernel) (fun q11 => ?_)
        refine x_astore C [(4, .ref q11), (0, .ref (B + oHB)), (1, .int p2), (2, .int p3), (3, .ref (B + oLOut))] dL_bedOf_17 (by decide) rfl ?_
        refine x_iconst C (v := 2) dL_bedOf_19 (by decide) ?_
        cases h
        exact hret _ _ _ _ dL_bedOf_20 rfl (by decide) (by decide)
      rw [if_neg hc10] at h
      cases h
def fL_occupant_LOut (p2 : Int32) (p3 : Int32) (p4 : Int32) (σ : Mem) (ω : Mem) : Option (Int32 × Mem) := ((fX5_occupant p2 p3 p4 σ).bind fun q1 => Sum.elim (fun x2 => (some ((0 : Int32), wJ ω 20 0 (0 : Int32).toNatClampNeg x2.toInt64))) (fun e3 => (if e3 = 3 then (some ((1 : Int32), ω)) else none)) q1)
set_option maxHeartbeats 4000000 in
set_option maxRecDepth 100000 in
theorem okL_occupant_LOut (l : Launch) (hlf : l.stackTraces = false) (cy : Nat → ClassId) (D : va_G) (B : Nat) (ek : EK) (h9 : ¬ cy 9 = 0) (p2 : Int32) (p3 : Int32) (p4 : Int32) (σ μ ω : Mem) (res : Int32 × Mem) (h : fL_occupant_LOut p2 p3 p4 σ ω = some res) : CTW l cy D B ek yL_occupant cL_occupant 6 (some .int) [(0, 12, 15, 36)] ({ frames := 9, cells := 3, slots := 18, locals := 188 } : Room) 3 18 [.ref (B + oHB), .int p2, .int p3, .int p4, .ref (B + oLOut)] σ μ ω (some (.int res.1)) σ μ res.2 := by
  refine met_XW (own := "HostelBedsLaw") (by decide) rfl (Nat.le_of_ble_eq_true rfl) ?_
  intro p e s m args below meth c C hrT hlk htab
  have hret : ∀ (cells9 slots9 pc9 : Nat) (lcs9 : List (Nat × Value)), decode cL_occupant pc9 = .ok (.ireturn, 1) → narrow .int (.int res.1) = .int res.1 → cells9 ≤ 3 → slots9 ≤ 18 → X p l e ({ frames := 9, cells := 3, slots := 18, locals := 188 } : Room) s m args below meth c 6 cy D B cells9 slots9 (vx_MQ below (QX cy D B (.inl (some (.int res.1))) σ μ res.2) (fun _ _ _ => False) args s 3 18 (aB B)) pc9 lcs9 [.int res.1] σ μ res.2 := fun cells9 slots9 pc9 lcs9 hd hn h1 h2 => x_zretX C hrT hlk hn hd h1 h2
  generalize (vx_MQ below (QX cy D B (.inl (some (.int res.1))) σ μ res.2) (fun _ _ _ => False) args s 3 18 (aB B)) = Q at hret ⊢
  obtain ⟨R, hR9⟩ : ∃ R : Room, R = ({ frames := 9, cells := 3, slots := 18, locals := 188 } : Room) := ⟨_, rfl⟩
  rw [← hR9] at hret ⊢
  unfold fL_occupant_LOut at h
  show X p l e R s m args below meth c 6 cy D B 0 0 Q 0 [(0, .ref (B + oHB)), (1, .int p2), (2, .int p3), (3, .int p4), (4, .ref (B + oLOut))] [] σ μ ω
  refine x_aload C dL_occupant_0 4 rfl ?_
  refine x_iconst C (v := 0) dL_occupant_2 (by decide) ?_
  refine x_aload_n C dL_occupant_3 rfl 0 rfl ?_
  refine x_iload_n C dL_occupant_4 rfl 1 rfl ?_
  refine x_iload_n C dL_occupant_5 rfl 2 rfl ?_
  refine x_iload_n C dL_occupant_6 rfl 3 rfl ?_
  obtain ⟨q1, hk1, h⟩ := Option.bind_eq_some_iff.mp h
  refine x_callVX C (As := [.int p2, .int p3, .int p4]) (rest := [.int (0 : Int32), .ref (B + oLOut)]) (cells2 := 3) (slots2 := 18) (lw_g_mk tw_879 rfl) (lw_g_mk tw_880 rfl) (c_HB) (C1 := "HostelBeds") (T := TX5) (N := 12) (ci := 5) rfl (okX5_occupant l hlf cy D B ek p2 p3 p4 σ μ ω _ hk1) rfl rfl (by rw [hR9]; decide) (lw_g_mk tw_881 rfl) (lw_g_mk tw_1 rfl) (by decide) rfl (lw_g_mk tw_878 rfl) rfl (Nat.le_of_ble_eq_true rfl) dL_occupant_7 (by rw [hR9]; decide) rfl rfl (fun v2 hv3 => ?_) (fun k4 hv5 => ?_)
  · rcases q1 with x2 | e3
    · rw [Sum.elim_inl] at h
      have hv3 : (Sum.inl (some (Value.int x2)) : Option Value ⊕ Nat) = .inl v2 := hv3
      cases hv3
      refine x_i2l C dL_occupant_10 ?_
      refine x_last C _ (c_LOut h9) (by decide : inb (0 : Int32) 1) dL_occupant_11 (s_LOut h9) ?_
      refine x_goto C (tgt := 19) dL_occupant_12 (by decide) ?_
      refine x_iconst C (v := 0) dL_occupant_19 (by decide) ?_
      cases h
      exact hret _ _ _ _ dL_occupant_20 rfl (by decide) (by decide)
    · cases hv3
  · rcases q1 with x2 | e3
    · cases hv5
    · rw [Sum.elim_inr] at h
      have hv5 : (Sum.inr e3 : Option Value ⊕ Nat) = .inr k4 := hv5
      cases hv5
      by_cases hc8 : k4 = 3
      · rw [if_pos hc8] at h
        subst hc8
        refine x_catch C htab [] ⟨0, 12, 15, 36⟩ [] rfl (fun z hz => by cases hz) (by decide +kernel) (by decide) (lw_g_mk tw_753 rfl) (by decide +kernel) (fun q9 => ?_)
        refine x_astore C [(5, .ref q9), (0, .ref (B + oHB)), (1, .int p2), (2, .int p3), (3, .int p4), (4, .ref (B + oLOut))] dL_occupant_15 (by decide) rfl ?_
        refine x_iconst C (v := 1) dL_occupant_17 (by decide) ?_
        cases h
        exact hret _ _ _ _ dL_occupant_18 rfl (by decide) (by decide)
      rw [if_neg hc8] at h
      cases h
def fL_freeBeds_LOut (p2 : Int32) (p3 : Int32) (σ : Mem) (ω : Mem) : Option (Int32 × Mem) := ((fX5_freeBeds p2 p3 σ).bind fun q1 => Sum.elim (fun x2 => (some ((0 : Int32), wJ ω 20 0 (0 : Int32).toNatClampNeg x2.toInt64))) (fun e3 => (if e3 = 3 then (some ((1 : Int32), ω)) else none)) q1)
set_option maxHeartbeats 4000000 in
set_option maxRecDepth 100000 in
theorem okL_freeBeds_LOut (l : Launch) (hlf : l.stackTraces = false) (cy : Nat → ClassId) (D : va_G) (B : Nat) (ek : EK) (h9 : ¬ cy 9 = 0) (p2 : Int32) (p3 : Int32) (σ μ ω : Mem) (res : Int32 × Mem) (h : fL_freeBeds_LOut p2 p3 σ ω = some res) : CTW l cy D B ek yL_freeBeds cL_freeBeds 5 (some .int) [(0, 10, 13, 36)] ({ frames := 8, cells := 2, slots := 12, locals := 163 } : Room) 2 12 [.ref (B + oHB), .int p2, .int p3, .ref (B + oLOut)] σ μ ω (some (.int res.1)) σ μ res.2 := by
  refine met_XW (own := "HostelBedsLaw") (by decide) rfl (Nat.le_of_ble_eq_true rfl) ?_
  intro p e s m args below meth c C hrT hlk htab
  have hret : ∀ (cells9 slots9 pc9 : Nat) (lcs9 : List (Nat × Value)), decode cL_freeBeds pc9 = .ok (.ireturn, 1) → narrow .int (.int res.1) = .int res.1 → cells9 ≤ 2 → slots9 ≤ 12 → X p l e ({ frames := 8, cells := 2, slots := 12, locals := 163 } : Room) s m args below meth c 5 cy D B cells9 slots9 (vx_MQ below (QX cy D B (.inl (some (.int res.1))) σ μ res.2) (fun _ _ _ => False) args s 2 12 (aB B)) pc9 lcs9 [.int res.1] σ μ res.2 := fun cells9 slots9 pc9 lcs9 hd hn h1 h2 => x_zretX C hrT hlk hn hd h1 h2
  generalize (vx_MQ below (QX cy D B (.inl (some (.int res.1))) σ μ res.2) (fun _ _ _ => False) args s 2 12 (aB B)) = Q at hret ⊢
  obtain ⟨R, hR9⟩ : ∃ R : Room, R = ({ frames := 8, cells := 2, slots := 12, locals := 163 } : Room) := ⟨_, rfl⟩
  rw [← hR9] at hret ⊢
  unfold fL_freeBeds_LOut at h
  show X p l e R s m args below meth c 5 cy D B 0 0 Q 0 [(0, .ref (B + oHB)), (1, .int p2), (2, .int p3), (3, .ref (B + oLOut))] [] σ μ ω
  refine x_aload_n C dL_freeBeds_0 rfl 3 rfl ?_
  refine x_iconst C (v := 0) dL_freeBeds_1 (by decide) ?_
  refine x_aload_n C dL_freeBeds_2 rfl 0 rfl ?_
  refine x_iload_n C dL_freeBeds_3 rfl 1 rfl ?_
  refine x_iload_n C dL_freeBeds_4 rfl 2 rfl ?_
  obtain ⟨q1, hk1, h⟩ := Option.bind_eq_some_iff.mp h
  refine x_callVX C (As := [.int p2, .int p3]) (rest := [.int (0 : Int32), .ref (B + oLOut)]) (cells2 := 2) (slots2 := 12) (lw_g_mk tw_901 rfl) (lw_g_mk tw_902 rfl) (c_HB) (C1 := "HostelBeds") (T := TX5) (N := 12) (ci := 5) rfl (okX5_freeBeds l hlf cy D B ek p2 p3 σ μ ω _ hk1) rfl rfl (by rw [hR9]; decide) (lw_g_mk tw_903 rfl) (lw_g_mk tw_1 rfl) (by decide) rfl (lw_g_mk tw_900 rfl) rfl (Nat.le_of_ble_eq_true rfl) dL_freeBeds_5 (by rw [hR9]; decide) rfl rfl (fun v2 hv3 => ?_) (fun k4 hv5 => ?_)
  · rcases q1 with x2 | e3
    · rw [Sum.elim_inl] at h
      have hv3 : (Sum.inl (some (Value.int x2)) : Option Value ⊕ Nat) = .inl v2 := hv3
      cases hv3
      refine x_i2l C dL_freeBeds_8 ?_
      refine x_last C _ (c_LOut h9) (by decide : inb (0 : Int32) 1) dL_freeBeds_9 (s_LOut h9) ?_
      refine x_goto C (tgt := 17) dL_freeBeds_10 (by decide) ?_
      refine x_iconst C (v := 0) dL_freeBeds_17 (by decide) ?_
      cases h
      exact hret _ _ _ _ dL_freeBeds_18 rfl (by decide) (by decide)
    · cases hv3
  · rcases q1 with x2 | e3
    · cases hv5
    · rw [Sum.elim_inr] at h
      have hv5 : (Sum.inr e3 : Option Value ⊕ Nat) = .inr k4 := hv5
      cases hv5
      by_cases hc8 : k4 = 3
      · rw [if_pos hc8] at h
        subst hc8
        refine x_catch C htab [] ⟨0, 10, 13, 36⟩ [] rfl (fun z hz => by cases hz) (by decide +kernel) (by decide) (lw_g_mk tw_753 rfl) (by decide +kernel) (fun q9 => ?_)
        refine x_astore C [(4, .ref q9), (0, .ref (B + oHB)), (1, .int p2), (2, .int p3), (3, .ref (B + oLOut))] dL_freeBeds_13 (by decide) rfl ?_
        refine x_iconst C (v := 1) dL_freeBeds_15 (by decide) ?_
        cases h
        exact hret _ _ _ _ dL_freeBeds_16 rfl (by decide) (by decide)
      rw [if_neg hc8] at h
      cases h
def fL_occupied_LOut (p2 : Int32) (σ : Mem) (ω : Mem) : Option (Int32 × Mem) := ((fX5_occupied p2 σ).bind fun q1 => Sum.elim (fun x2 => (some ((0 : Int32), wJ ω 20 0 (0 : Int32).toNatClampNeg x2.toInt64))) (fun e3 => (if e3 = 3 then (some ((1 : Int32), ω)) else none)) q1)
set_option maxHeartbeats 4000000 in
set_option maxRecDepth 100000 in
theorem okL_occupied_LOut (l : Launch) (hlf : l.stackTraces = false) (cy : Nat → ClassId) (D : va_G) (B : Nat) (ek : EK) (h9 : ¬ cy 9 = 0) (p2 : Int32) (σ μ ω : Mem) (res : Int32 × Mem) (h : fL_occupied_LOut p2 σ ω = some res) : CTW l cy D B ek yL_occupied cL_occupied 4 (some .int) [(0, 9, 12, 36)] ({ frames := 8, cells := 1, slots := 6, locals := 161 } : Room) 1 6 [.ref (B + oHB), .int p2, .ref (B + oLOut)] σ μ ω (some (.int res.1)) σ μ res.2 := by
  refine met_XW (own := "HostelBedsLaw") (by decide) rfl (Nat.le_of_ble_eq_true rfl) ?_
  intro p e s m args below meth c C hrT hlk htab
  have hret : ∀ (cells9 slots9 pc9 : Nat) (lcs9 : List (Nat × Value)), decode cL_occupied pc9 = .ok (.ireturn, 1) → narrow .int (.int res.1) = .int res.1 → cells9 ≤ 1 → slots9 ≤ 6 → X p l e ({ frames := 8, cells := 1, slots := 6, locals := 161 } : Room) s m args below meth c 4 cy D B cells9 slots9 (vx_MQ below (QX cy D B (.inl (some (.int res.1))) σ μ res.2) (fun _ _ _ => False) args s 1 6 (aB B)) pc9 lcs9 [.int res.1] σ μ res.2 := fun cells9 slots9 pc9 lcs9 hd hn h1 h2 => x_zretX C hrT hlk hn hd h1 h2
  generalize (vx_MQ below (QX cy D B (.inl (some (.int res.1))) σ μ res.2) (fun _ _ _ => False) args s 1 6 (aB B)) = Q at hret ⊢
  obtain ⟨R, hR9⟩ : ∃ R : Room, R = ({ frames := 8, cells := 1, slots := 6, locals := 161 } : Room) := ⟨_, rfl⟩
  rw [← hR9] at hret ⊢
  unfold fL_occupied_LOut at h
  show X p l e R s m args below meth c 4 cy D B 0 0 Q 0 [(0, .ref (B + oHB)), (1, .int p2), (2, .ref (B + oLOut))] [] σ μ ω
  refine x_aload_n C dL_occupied_0 rfl 2 rfl ?_
  refine x_iconst C (v := 0) dL_occupied_1 (by decide) ?_
  refine x_aload_n C dL_occupied_2 rfl 0 rfl ?_
  refine x_iload_n C dL_occupied_3 rfl 1 rfl ?_
  obtain ⟨q1, hk1, h⟩ := Option.bind_eq_some_iff.mp h
  refine x_callVX C (As := [.int p2]) (rest := [.int (0 : Int32), .ref (B + oLOut)]) (cells2 := 1) (slots2 := 6) (lw_g_mk tw_908 rfl) (lw_g_mk tw_909 rfl) (c_HB) (C1 := "HostelBeds") (T := TX5) (N := 12) (ci := 5) rfl (okX5_occupied l hlf cy D B ek p2 σ μ ω _ hk1) rfl rfl (by rw [hR9]; decide) (lw_g_mk tw_910 rfl) (lw_g_mk tw_1 rfl) (by decide) rfl (lw_g_mk tw_907 rfl) rfl (Nat.le_of_ble_eq_true rfl) dL_occupied_4 (by rw [hR9]; decide) rfl rfl (fun v2 hv3 => ?_) (fun k4 hv5 => ?_)
  · rcases q1 with x2 | e3
    · rw [Sum.elim_inl] at h
      have hv3 : (Sum.inl (some (Value.int x2)) : Option Value ⊕ Nat) = .inl v2 := hv3
      cases hv3
      refine x_i2l C dL_occupied_7 ?_
      refine x_last C _ (c_LOut h9) (by decide : inb (0 : Int32) 1) dL_occupied_8 (s_LOut h9) ?_
      refine x_goto C (tgt := 15) dL_occupied_9 (by decide) ?_
      refine x_iconst C (v := 0) dL_occupied_15 (by decide) ?_
      cases h
      exact hret _ _ _ _ dL_occupied_16 rfl (by decide) (by decide)
    · cases hv3
  · rcases q1 with x2 | e3
    · cases hv5
    · rw [Sum.elim_inr] at h
      have hv5 : (Sum.inr e3 : Option Value ⊕ Nat) = .inr k4 := hv5
      cases hv5
      by_cases hc8 : k4 = 3
      · rw [if_pos hc8] at h
        subst hc8
        refine x_catch C htab [] ⟨0, 9, 12, 36⟩ [] rfl (fun z hz => by cases hz) (by decide +kernel) (by decide) (lw_g_mk tw_753 rfl) (by decide +kernel) (fun q9 => ?_)
        refine x_astore_n C [(3, .ref q9), (0, .ref (B + oHB)), (1, .int p2), (2, .ref (B + oLOut))] dL_occupied_12 rfl (by decide) rfl ?_
        refine x_iconst C (v := 1) dL_occupied_13 (by decide) ?_
        cases h
        exact hret _ _ _ _ dL_occupied_14 rfl (by decide) (by decide)
      rw [if_neg hc8] at h
      cases h
def fL_booked_LOut (p2 : Int32) (σ : Mem) (ω : Mem) : Option (Int32 × Mem) := ((fX5_booked p2 σ).bind fun q1 => Sum.elim (fun x2 => (some ((0 : Int32), wJ ω 20 0 (0 : Int32).toNatClampNeg x2.toInt64))) (fun e3 => (if e3 = 3 then (some ((1 : Int32), ω)) else none)) q1)
set_option maxHeartbeats 4000000 in
set_option maxRecDepth 100000 in
theorem okL_booked_LOut (l : Launch) (hlf : l.stackTraces = false) (cy : Nat → ClassId) (D : va_G) (B : Nat) (ek : EK) (h9 : ¬ cy 9 = 0) (p2 : Int32) (σ μ ω : Mem) (res : Int32 × Mem) (h : fL_booked_LOut p2 σ ω = some res) : CTW l cy D B ek yL_booked cL_booked 4 (some .int) [(0, 9, 12, 36)] ({ frames := 8, cells := 1, slots := 6, locals := 161 } : Room) 1 6 [.ref (B + oHB), .int p2, .ref (B + oLOut)] σ μ ω (some (.int res.1)) σ μ res.2 := by
  refine met_XW (own := "HostelBedsLaw") (by decide) rfl (Nat.le_of_ble_eq_true rfl) ?_
  intro p e s m args below meth c C hrT hlk htab
  have hret : ∀ (cells9 slots9 pc9 : Nat) (lcs9 : List (Nat × Value)), decode cL_booked pc9 = .ok (.ireturn, 1) → narrow .int (.int res.1) = .int res.1 → cells9 ≤ 1 → slots9 ≤ 6 → X p l e ({ frames := 8, cells := 1, slots := 6, locals := 161 } : Room) s m args below meth c 4 cy D B cells9 slots9 (vx_MQ below (QX cy D B (.inl (some (.int res.1))) σ μ res.2) (fun _ _ _ => False) args s 1 6 (aB B)) pc9 lcs9 [.int res.1] σ μ res.2 := fun cells9 slots9 pc9 lcs9 hd hn h1 h2 => x_zretX C hrT hlk hn hd h1 h2
  generalize (vx_MQ below (QX cy D B (.inl (some (.int res.1))) σ μ res.2) (fun _ _ _ => False) args s 1 6 (aB B)) = Q at hret ⊢
  obtain ⟨R, hR9⟩ : ∃ R : Room, R = ({ frames := 8, cells := 1, slots := 6, locals := 161 } : Room) := ⟨_, rfl⟩
  rw [← hR9] at hret ⊢
  unfold fL_booked_LOut at h
  show X p l e R s m args below meth c 4 cy D B 0 0 Q 0 [(0, .ref (B + oHB)), (1, .int p2), (2, .ref (B + oLOut))] [] σ μ ω
  refine x_aload_n C dL_booked_0 rfl 2 rfl ?_
  refine x_iconst C (v := 0) dL_booked_1 (by decide) ?_
  refine x_aload_n C dL_booked_2 rfl 0 rfl ?_
  refine x_iload_n C dL_booked_3 rfl 1 rfl ?_
  obtain ⟨q1, hk1, h⟩ := Option.bind_eq_some_iff.mp h
  refine x_callVX C (As := [.int p2]) (rest := [.int (0 : Int32), .ref (B + oLOut)]) (cells2 := 1) (slots2 := 6) (lw_g_mk tw_915 rfl) (lw_g_mk tw_916 rfl) (c_HB) (C1 := "HostelBeds") (T := TX5) (N := 12) (ci := 5) rfl (okX5_booked l hlf cy D B ek p2 σ μ ω _ hk1) rfl rfl (by rw [hR9]; decide) (lw_g_mk tw_917 rfl) (lw_g_mk tw_1 rfl) (by decide) rfl (lw_g_mk tw_914 rfl) rfl (Nat.le_of_ble_eq_true rfl) dL_booked_4 (by rw [hR9]; decide) rfl rfl (fun v2 hv3 => ?_) (fun k4 hv5 => ?_)
  · rcases q1 with x2 | e3
    · rw [Sum.elim_inl] at h
      have hv3 : (Sum.inl (some (Value.int x2)) : Option Value ⊕ Nat) = .inl v2 := hv3
      cases hv3
      refine x_i2l C dL_booked_7 ?_
      refine x_last C _ (c_LOut h9) (by decide : inb (0 : Int32) 1) dL_booked_8 (s_LOut h9) ?_
      refine x_goto C (tgt := 15) dL_booked_9 (by decide) ?_
      refine x_iconst C (v := 0) dL_booked_15 (by decide) ?_
      cases h
      exact hret _ _ _ _ dL_booked_16 rfl (by decide) (by decide)
    · cases hv3
  · rcases q1 with x2 | e3
    · cases hv5
    · rw [Sum.elim_inr] at h
      have hv5 : (Sum.inr e3 : Option Value ⊕ Nat) = .inr k4 := hv5
      cases hv5
      by_cases hc8 : k4 = 3
      · rw [if_pos hc8] at h
        subst hc8
        refine x_catch C htab [] ⟨0, 9, 12, 36⟩ [] rfl (fun z hz => by cases hz) (by decide +kernel) (by decide) (lw_g_mk tw_753 rfl) (by decide +kernel) (fun q9 => ?_)
        refine x_astore_n C [(3, .ref q9), (0, .ref (B + oHB)), (1, .int p2), (2, .ref (B + oLOut))] dL_booked_12 rfl (by decide) rfl ?_
        refine x_iconst C (v := 1) dL_booked_13 (by decide) ?_
        cases h
        exact hret _ _ _ _ dL_booked_14 rfl (by decide) (by decide)
      rw [if_neg hc8] at h
      cases h
def fL_walked_LOut (p2 : Int32) (σ : Mem) (ω : Mem) : Option (Int32 × Mem) := ((fX5_walked p2 σ).bind fun q1 => Sum.elim (fun x2 => (some ((0 : Int32), wJ ω 20 0 (0 : Int32).toNatClampNeg x2.toInt64))) (fun e3 => (if e3 = 3 then (some ((1 : Int32), ω)) else none)) q1)
set_option maxHeartbeats 4000000 in
set_option maxRecDepth 100000 in
theorem okL_walked_LOut (l : Launch) (hlf : l.stackTraces = false) (cy : Nat → ClassId) (D : va_G) (B : Nat) (ek : EK) (h9 : ¬ cy 9 = 0) (p2 : Int32) (σ μ ω : Mem) (res : Int32 × Mem) (h : fL_walked_LOut p2 σ ω = some res) : CTW l cy D B ek yL_walked cL_walked 4 (some .int) [(0, 9, 12, 36)] ({ frames := 8, cells := 1, slots := 6, locals := 161 } : Room) 1 6 [.ref (B + oHB), .int p2, .ref (B + oLOut)] σ μ ω (some (.int res.1)) σ μ res.2 := by
  refine met_XW (own := "HostelBedsLaw") (by decide) rfl (Nat.le_of_ble_eq_true rfl) ?_
  intro p e s m args below meth c C hrT hlk htab
  have hret : ∀ (cells9 slots9 pc9 : Nat) (lcs9 : List (Nat × Value)), decode cL_walked pc9 = .ok (.ireturn, 1) → narrow .int (.int res.1) = .int res.1 → cells9 ≤ 1 → slots9 ≤ 6 → X p l e ({ frames := 8, cells := 1, slots := 6, locals := 161 } : Room) s m args below meth c 4 cy D B cells9 slots9 (vx_MQ below (QX cy D B (.inl (some (.int res.1))) σ μ res.2) (fun _ _ _ => False) args s 1 6 (aB B)) pc9 lcs9 [.int res.1] σ μ res.2 := fun cells9 slots9 pc9 lcs9 hd hn h1 h2 => x_zretX C hrT hlk hn hd h1 h2
  generalize (vx_MQ below (QX cy D B (.inl (some (.int res.1))) σ μ res.2) (fun _ _ _ => False) args s 1 6 (aB B)) = Q at hret ⊢
  obtain ⟨R, hR9⟩ : ∃ R : Room, R = ({ frames := 8, cells := 1, slots := 6, locals := 161 } : Room) := ⟨_, rfl⟩
  rw [← hR9] at hret ⊢
  unfold fL_walked_LOut at h
  show X p l e R s m args below meth c 4 cy D B 0 0 Q 0 [(0, .ref (B + oHB)), (1, .int p2), (2, .ref (B + oLOut))] [] σ μ ω
  refine x_aload_n C dL_walked_0 rfl 2 rfl ?_
  refine x_iconst C (v := 0) dL_walked_1 (by decide) ?_
  refine x_aload_n C dL_walked_2 rfl 0 rfl ?_
  refine x_iload_n C dL_walked_3 rfl 1 rfl ?_
  obtain ⟨q1, hk1, h⟩ := Option.bind_eq_some_iff.mp h
  refine x_callVX C (As := [.int p2]) (rest := [.int (0 : Int32), .ref (B + oLOut)]) (cells2 := 1) (slots2 := 6) (lw_g_mk tw_922 rfl) (lw_g_mk tw_923 rfl) (c_HB) (C1 := "HostelBeds") (T := TX5) (N := 12) (ci := 5) rfl (okX5_walked l hlf cy D B ek p2 σ μ ω _ hk1) rfl rfl (by rw [hR9]; decide) (lw_g_mk tw_924 rfl) (lw_g_mk tw_1 rfl) (by decide) rfl (lw_g_mk tw_921 rfl) rfl (Nat.le_of_ble_eq_true rfl) dL_walked_4 (by rw [hR9]; decide) rfl rfl (fun v2 hv3 => ?_) (fun k4 hv5 => ?_)
  · rcases q1 with x2 | e3
    · rw [Sum.elim_inl] at h
      have hv3 : (Sum.inl (some (Value.int x2)) : Option Value ⊕ Nat) = .inl v2 := hv3
      cases hv3
      refine x_i2l C dL_walked_7 ?_
      refine x_last C _ (c_LOut h9) (by decide : inb (0 : Int32) 1) dL_walked_8 (s_LOut h9) ?_
      refine x_goto C (tgt := 15) dL_walked_9 (by decide) ?_
      refine x_iconst C (v := 0) dL_walked_15 (by decide) ?_
      cases h
      exact hret _ _ _ _ dL_walked_16 rfl (by decide) (by decide)
    · cases hv3
  · rcases q1 with x2 | e3
    · cases hv5
    · rw [Sum.elim_inr] at h
      have hv5 : (Sum.inr e3 : Option Value ⊕ Nat) = .inr k4 := hv5
      cases hv5
      by_cases hc8 : k4 = 3
      · rw [if_pos hc8] at h
        subst hc8
        refine x_catch C htab [] ⟨0, 9, 12, 36⟩ [] rfl (fun z hz => by cases hz) (by decide +kernel) (by decide) (lw_g_mk tw_753 rfl) (by decide +kernel) (fun q9 => ?_)
        refine x_astore_n C [(3, .ref q9), (0, .ref (B + oHB)), (1, .int p2), (2, .ref (B + oLOut))] dL_walked_12 rfl (by decide) rfl ?_
        refine x_iconst C (v := 1) dL_walked_13 (by decide) ?_
        cases h
        exact hret _ _ _ _ dL_walked_14 rfl (by decide) (by decide)
      rw [if_neg hc8] at h
      cases h
def fL_longestFree_LOut (p2 : Int32) (p3 : Int32) (σ : Mem) (ω : Mem) : Option (Int32 × Mem) := ((fX5_longestFree p2 p3 σ).bind fun q1 => Sum.elim (fun x2 => (some ((0 : Int32), wJ ω 20 0 (0 : Int32).toNatClampNeg x2.toInt64))) (fun e3 => (if e3 = 3 then (some ((1 : Int32), ω)) else none)) q1)
set_option maxHeartbeats 4000000 in
set_option maxRecDepth 100000 in
theorem okL_longestFree_LOut (l : Launch) (hlf : l.stackTraces = false) (cy : Nat → ClassId) (D : va_G) (B : Nat) (ek : EK) (h9 : ¬ cy 9 = 0) (p2 : Int32) (p3 : Int32) (σ μ ω : Mem) (res : Int32 × Mem) (h : fL_longestFree_LOut p2 p3 σ ω = some res) : CTW l cy D B ek yL_longestFree cL_longestFree 5 (some .int) [(0, 10, 13, 36)] ({ frames := 9, cells := 2, slots := 12, locals := 188 } : Room) 2 12 [.ref (B + oHB), .int p2, .int p3, .ref (B + oLOut)] σ μ ω (some (.int res.1)) σ μ res.2 := by
  refine met_XW (own := "HostelBedsLaw") (by decide) rfl (Nat.le_of_ble_eq_true rfl) ?_
  intro p e s m args below meth c C hrT hlk htab
  have hret : ∀ (cells9 slots9 pc9 : Nat) (lcs9 : List (Nat × Value)), decode cL_longestFree pc9 = .ok (.ireturn, 1) → narrow .int (.int res.1) = .int res.1 → cells9 ≤ 2 → slots9 ≤ 12 → X p l e ({ frames := 9, cells := 2, slots := 12, locals := 188 } : Room) s m args below meth c 5 cy D B cells9 slots9 (vx_MQ below (QX cy D B (.inl (some (.int res.1))) σ μ res.2) (fun _ _ _ => False) args s 2 12 (aB B)) pc9 lcs9 [.int res.1] σ μ res.2 := fun cells9 slots9 pc9 lcs9 hd hn h1 h2 => x_zretX C hrT hlk hn hd h1 h2
  generalize (vx_MQ below (QX cy D B (.inl (some (.int res.1))) σ μ res.2) (fun _ _ _ => False) args s 2 12 (aB B)) = Q at hret ⊢
  obtain ⟨R, hR9⟩ : ∃ R : Room, R = ({ frames := 9, cells := 2, slots := 12, locals := 188 } : Room) := ⟨_, rfl⟩
  rw [← hR9] at hret ⊢
  unfold fL_longestFree_LOut at h
  show X p l e R s m args below meth c 5 cy D B 0 0 Q 0 [(0, .ref (B + oHB)), (1, .int p2), (2, .int p3), (3, .ref (B + oLOut))] [] σ μ ω
  refine x_aload_n C dL_longestFree_0 rfl 3 rfl ?_
  refine x_iconst C (v := 0) dL_longestFree_1 (by decide) ?_
  refine x_aload_n C dL_longestFree_2 rfl 0 rfl ?_
  refine x_iload_n C dL_longestFree_3 rfl 1 rfl ?_
  refine x_iload_n C dL_longestFree_4 rfl 2 rfl ?_
  obtain ⟨q1, hk1, h⟩ := Option.bind_eq_some_iff.mp h
  refine x_callVX C (As := [.int p2, .int p3]) (rest := [.int (0 : Int32), .ref (B + oLOut)]) (cells2 := 2) (slots2 := 12) (lw_g_mk tw_933 rfl) (lw_g_mk tw_934 rfl) (c_HB) (C1 := "HostelBeds") (T := TX5) (N := 12) (ci := 5) rfl (okX5_longestFree l hlf cy D B ek p2 p3 σ μ ω _ hk1) rfl rfl (by rw [hR9]; decide) (lw_g_mk tw_935 rfl) (lw_g_mk tw_1 rfl) (by decide) rfl (lw_g_mk tw_932 rfl) rfl (Nat.le_of_ble_eq_true rfl) dL_longestFree_5 (by rw [hR9]; decide) rfl rfl (fun v2 hv3 => ?_) (fun k4 hv5 => ?_)
  · rcases q1 with x2 | e3
    · rw [Sum.elim_inl] at h
      have hv3 : (Sum.inl (some (Value.int x2)) : Option Value ⊕ Nat) = .inl v2 := hv3
      cases hv3
      refine x_i2l C dL_longestFree_8 ?_
      refine x_last C _ (c_LOut h9) (by decide : inb (0 : Int32) 1) dL_longestFree_9 (s_LOut h9) ?_
      refine x_goto C (tgt := 17) dL_longestFree_10 (by decide) ?_
      refine x_iconst C (v := 0) dL_longestFree_17 (by decide) ?_
      cases h
      exact hret _ _ _ _ dL_longestFree_18 rfl (by decide) (by decide)
    · cases hv3
  · rcases q1 with x2 | e3
    · cases hv5
    · rw [Sum.elim_inr] at h
      have hv5 : (Sum.inr e3 : Option Value ⊕ Nat) = .inr k4 := hv5
      cases hv5
      by_cases hc8 : k4 = 3
      · rw [if_pos hc8] at h
        subst hc8
        refine x_catch C htab [] ⟨0, 10, 13, 36⟩ [] rfl (fun z hz => by cases hz) (by decide +kernel) (by decide) (lw_g_mk tw_753 rfl) (by decide +kernel) (fun q9 => ?_)
        refine x_astore C [(4, .ref q9), (0, .ref (B + oHB)), (1, .int p2), (2, .int p3), (3, .ref (B + oLOut))] dL_longestFree_13 (by decide) rfl ?_
        refine x_iconst C (v := 1) dL_longestFree_15 (by decide) ?_
        cases h
        exact hret _ _ _ _ dL_longestFree_16 rfl (by decide) (by decide)
      rw [if_neg hc8] at h
      cases h
def fL_extendable_LOut (p2 : Int32) (σ : Mem) (ω : Mem) : Option (Int32 × Mem) := ((fX5_extendable p2 σ).bind fun q1 => Sum.elim (fun x2 => (some ((0 : Int32), wJ ω 20 0 (0 : Int32).toNatClampNeg x2.toInt64))) (fun e3 => (if e3 = 3 then (some ((1 : Int32), ω)) else none)) q1)
set_option maxHeartbeats 4000000 in
set_option maxRecDepth 100000 in
theorem okL_extendable_LOut (l : Launch) (hlf : l.stackTraces = false) (cy : Nat → ClassId) (D : va_G) (B : Nat) (ek : EK) (h9 : ¬ cy 9 = 0) (p2 : Int32) (σ μ ω : Mem) (res : Int32 × Mem) (h : fL_extendable_LOut p2 σ ω = some res) : CTW l cy D B ek yL_extendable cL_extendable 4 (some .int) [(0, 9, 12, 36)] ({ frames := 8, cells := 1, slots := 6, locals := 165 } : Room) 1 6 [.ref (B + oHB), .int p2, .ref (B + oLOut)] σ μ ω (some (.int res.1)) σ μ res.2 := by
  refine met_XW (own := "HostelBedsLaw") (by decide) rfl (Nat.le_of_ble_eq_true rfl) ?_
  intro p e s m args below meth c C hrT hlk htab
  have hret : ∀ (cells9 slots9 pc9 : Nat) (lcs9 : List (Nat × Value)), decode cL_extendable pc9 = .ok (.ireturn, 1) → narrow .int (.int res.1) = .int res.1 → cells9 ≤ 1 → slots9 ≤ 6 → X p l e ({ frames := 8, cells := 1, slots := 6, locals := 165 } : Room) s m args below meth c 4 cy D B cells9 slots9 (vx_MQ below (QX cy D B (.inl (some (.int res.1))) σ μ res.2) (fun _ _ _ => False) args s 1 6 (aB B)) pc9 lcs9 [.int res.1] σ μ res.2 := fun cells9 slots9 pc9 lcs9 hd hn h1 h2 => x_zretX C hrT hlk hn hd h1 h2
  generalize (vx_MQ below (QX cy D B (.inl (some (.int res.1))) σ μ res.2) (fun _ _ _ => False) args s 1 6 (aB B)) = Q at hret ⊢
  obtain ⟨R, hR9⟩ : ∃ R : Room, R = ({ frames := 8, cells := 1, slots := 6, locals := 165 } : Room) := ⟨_, rfl⟩
  rw [← hR9] at hret ⊢
  unfold fL_extendable_LOut at h
  show X p l e R s m args below meth c 4 cy D B 0 0 Q 0 [(0, .ref (B + oHB)), (1, .int p2), (2, .ref (B + oLOut))] [] σ μ ω
  refine x_aload_n C dL_extendable_0 rfl 2 rfl ?_
  refine x_iconst C (v := 0) dL_extendable_1 (by decide) ?_
  refine x_aload_n C dL_extendable_2 rfl 0 rfl ?_
  refine x_iload_n C dL_extendable_3 rfl 1 rfl ?_
  obtain ⟨q1, hk1, h⟩ := Option.bind_eq_some_iff.mp h
  refine x_callVX C (As := [.int p2]) (rest := [.int (0 : Int32), .ref (B + oLOut)]) (cells2 := 1) (slots2 := 6) (lw_g_mk tw_942 rfl) (lw_g_mk tw_943 rfl) (c_HB) (C1 := "HostelBeds") (T := TX5) (N := 12) (ci := 5) rfl (okX5_extendable l hlf cy D B ek p2 σ μ ω _ hk1) rfl rfl (by rw [hR9]; decide) (lw_g_mk tw_944 rfl) (lw_g_mk tw_1 rfl) (by decide) rfl (lw_g_mk tw_941 rfl) rfl (Nat.le_of_ble_eq_true rfl) dL_extendable_4 (by rw [hR9]; decide) rfl rfl (fun v2 hv3 => ?_) (fun k4 hv5 => ?_)
  · rcases q1 with x2 | e3
    · rw [Sum.elim_inl] at h
      have hv3 : (Sum.inl (some (Value.int x2)) : Option Value ⊕ Nat) = .inl v2 := hv3
      cases hv3
      refine x_i2l C dL_extendable_7 ?_
      refine x_last C _ (c_LOut h9) (by decide : inb (0 : Int32) 1) dL_extendable_8 (s_LOut h9) ?_
      refine x_goto C (tgt := 15) dL_extendable_9 (by decide) ?_
      refine x_iconst C (v := 0) dL_extendable_15 (by decide) ?_
      cases h
      exact hret _ _ _ _ dL_extendable_16 rfl (by decide) (by decide)
    · cases hv3
  · rcases q1 with x2 | e3
    · cases hv5
    · rw [Sum.elim_inr] at h
      have hv5 : (Sum.inr e3 : Option Value ⊕ Nat) = .inr k4 := hv5
      cases hv5
      by_cases hc8 : k4 = 3
      · rw [if_pos hc8] at h
        subst hc8
        refine x_catch C htab [] ⟨0, 9, 12, 36⟩ [] rfl (fun z hz => by cases hz) (by decide +kernel) (by decide) (lw_g_mk tw_753 rfl) (by decide +kernel) (fun q9 => ?_)
        refine x_astore_n C [(3, .ref q9), (0, .ref (B + oHB)), (1, .int p2), (2, .ref (B + oLOut))] dL_extendable_12 rfl (by decide) rfl ?_
        refine x_iconst C (v := 1) dL_extendable_13 (by decide) ?_
        cases h
        exact hret _ _ _ _ dL_extendable_14 rfl (by decide) (by decide)
      rw [if_neg hc8] at h
      cases h
def fL_pays_LOut (p2 : Int32) (σ : Mem) (ω : Mem) : Option (Int32 × Mem) := ((fX5_pays p2 σ).bind fun q1 => Sum.elim (fun x2 => (some ((0 : Int32), wJ ω 20 0 (0 : Int32).toNatClampNeg x2.toInt64))) (fun e3 => (if e3 = 3 then (some ((1 : Int32), ω)) else none)) q1)
set_option maxHeartbeats 4000000 in
set_option maxRecDepth 100000 in
theorem okL_pays_LOut (l : Launch) (hlf : l.stackTraces = false) (cy : Nat → ClassId) (D : va_G) (B : Nat) (ek : EK) (h9 : ¬ cy 9 = 0) (p2 : Int32) (σ μ ω : Mem) (res : Int32 × Mem) (h : fL_pays_LOut p2 σ ω = some res) : CTW l cy D B ek yL_pays cL_pays 4 (some .int) [(0, 9, 12, 36)] ({ frames := 8, cells := 1, slots := 6, locals := 162 } : Room) 1 6 [.ref (B + oHB), .int p2, .ref (B + oLOut)] σ μ ω (some (.int res.1)) σ μ res.2 := by
  refine met_XW (own := "HostelBedsLaw") (by decide) rfl (Nat.le_of_ble_eq_true rfl) ?_
  intro p e s m args below meth c C hrT hlk htab
  have hret : ∀ (cells9 slots9 pc9 : Nat) (lcs9 : List (Nat × Value)), decode cL_pays pc9 = .ok (.ireturn, 1) → narrow .int (.int res.1) = .int res.1 → cells9 ≤ 1 → slots9 ≤ 6 → X p l e ({ frames := 8, cells := 1, slots := 6, locals := 162 } : Room) s m args below meth c 4 cy D B cells9 slots9 (vx_MQ below (QX cy D B (.inl (some (.int res.1))) σ μ res.2) (fun _ _ _ => False) args s 1 6 (aB B)) pc9 lcs9 [.int res.1] σ μ res.2 := fun cells9 slots9 pc9 lcs9 hd hn h1 h2 => x_zretX C hrT hlk hn hd h1 h2
  generalize (vx_MQ below (QX cy D B (.inl (some (.int res.1))) σ μ res.2) (fun _ _ _ => False) args s 1 6 (aB B)) = Q at hret ⊢
  obtain ⟨R, hR9⟩ : ∃ R : Room, R = ({ frames := 8, cells := 1, slots := 6, locals := 162 } : Room) := ⟨_, rfl⟩
  rw [← hR9] at hret ⊢
  unfold fL_pays_LOut at h
  show X p l e R s m args below meth c 4 cy D B 0 0 Q 0 [(0, .ref (B + oHB)), (1, .int p2), (2, .ref (B + oLOut))] [] σ μ ω
  refine x_aload_n C dL_pays_0 rfl 2 rfl ?_
  refine x_iconst C (v := 0) dL_pays_1 (by decide) ?_
  refine x_aload_n C dL_pays_2 rfl 0 rfl ?_
  refine x_iload_n C dL_pays_3 rfl 1 rfl ?_
  obtain ⟨q1, hk1, h⟩ := Option.bind_eq_some_iff.mp h
  refine x_callVX C (As := [.int p2]) (rest := [.int (0 : Int32), .ref (B + oLOut)]) (cells2 := 1) (slots2 := 6) (lw_g_mk tw_953 rfl) (lw_g_mk tw_954 rfl) (c_HB) (C1 := "HostelBeds") (T := TX5) (N := 12) (ci := 5) rfl (okX5_pays l hlf cy D B ek p2 σ μ ω _ hk1) rfl rfl (by rw [hR9]; decide) (lw_g_mk tw_955 rfl) (lw_g_mk tw_1 rfl) (by decide) rfl (lw_g_mk tw_952 rfl) rfl (Nat.le_of_ble_eq_true rfl) dL_pays_4 (by rw [hR9]; decide) rfl rfl (fun v2 hv3 => ?_) (fun k4 hv5 => ?_)
  · rcases q1 with x2 | e3
    · rw [Sum.elim_inl] at h
      have hv3 : (Sum.inl (some (Value.int x2)) : Option Value ⊕ Nat) = .inl v2 := hv3
      cases hv3
      refine x_i2l C dL_pays_7 ?_
      refine x_last C _ (c_LOut h9) (by decide : inb (0 : Int32) 1) dL_pays_8 (s_LOut h9) ?_
      refine x_goto C (tgt := 15) dL_pays_9 (by decide) ?_
      refine x_iconst C (v := 0) dL_pays_15 (by decide) ?_
      cases h
      exact hret _ _ _ _ dL_pays_16 rfl (by decide) (by decide)
    · cases hv3
  · rcases q1 with x2 | e3
    · cases hv5
    · rw [Sum.elim_inr] at h
      have hv5 : (Sum.inr e3 : Option Value ⊕ Nat) = .inr k4 := hv5
      cases hv5
      by_cases hc8 : k4 = 3
      · rw [if_pos hc8] at h
        subst hc8
        refine x_catch C htab [] ⟨0, 9, 12, 36⟩ [] rfl (fun z hz => by cases hz) (by decide +kernel) (by decide) (lw_g_mk tw_753 rfl) (by decide +kernel) (fun q9 => ?_)
        refine x_astore_n C [(3, .ref q9), (0, .ref (B + oHB)), (1, .int p2), (2, .ref (B + oLOut))] dL_pays_12 rfl (by decide) rfl ?_
        refine x_iconst C (v := 1) dL_pays_13 (by decide) ?_
        cases h
        exact hret _ _ _ _ dL_pays_14 rfl (by decide) (by decide)
      rw [if_neg hc8] at h
      cases h
def fL_chance_LOutD (p2 : Int32) (p3 : Int32) (σ : Mem) (ω : Mem) : Option (Int32 × Mem × Mem) := ((fX5_chance p2 p3 σ).bind fun q1 => Sum.elim (fun x2 => (some ((0 : Int32), q1.2, wD ω 2 0 (0 : Int32).toNatClampNeg x2))) (fun e3 => (if e3 = 3 then (some ((1 : Int32), q1.2, ω)) else none)) q1.1)
set_option maxHeartbeats 4000000 in
set_option maxRecDepth 100000 in
theorem okL_chance_LOutD (l : Launch) (hlf : l.stackTraces = false) (cy : Nat → ClassId) (D : va_G) (B : Nat) (ek : EK) (h9 : ¬ cy 9 = 0) (p2 : Int32) (p3 : Int32) (σ μ ω : Mem) (res : Int32 × Mem × Mem) (h : fL_chance_LOutD p2 p3 σ ω = some res) : CTW l cy D B ek yL_chance cL_chance 5 (some .int) [(0, 9, 12, 36)] ({ frames := 8, cells := 1, slots := 6, locals := 162 } : Room) 1 6 [.ref (B + oHB), .int p2, .int p3, .ref (B + oLOutD)] σ μ ω (some (.int res.1)) res.2.1 μ res.2.2 := by
  refine met_XW (own := "HostelBedsLaw") (by decide) rfl (Nat.le_of_ble_eq_true rfl) ?_
  intro p e s m args below meth c C hrT hlk htab
  have hret : ∀ (cells9 slots9 pc9 : Nat) (lcs9 : List (Nat × Value)), decode cL_chance pc9 = .ok (.ireturn, 1) → narrow .int (.int res.1) = .int res.1 → cells9 ≤ 1 → slots9 ≤ 6 → X p l e ({ frames := 8, cells := 1, slots := 6, locals := 162 } : Room) s m args below meth c 5 cy D B cells9 slots9 (vx_MQ below (QX cy D B (.inl (some (.int res.1))) res.2.1 μ res.2.2) (fun _ _ _ => False) args s 1 6 (aB B)) pc9 lcs9 [.int res.1] res.2.1 μ res.2.2 := fun cells9 slots9 pc9 lcs9 hd hn h1 h2 => x_zretX C hrT hlk hn hd h1 h2
  generalize (vx_MQ below (QX cy D B (.inl (some (.int res.1))) res.2.1 μ res.2.2) (fun _ _ _ => False) args s 1 6 (aB B)) = Q at hret ⊢
  obtain ⟨R, hR9⟩ : ∃ R : Room, R = ({ frames := 8, cells := 1, slots := 6, locals := 162 } : Room) := ⟨_, rfl⟩
  rw [← hR9] at hret ⊢
  unfold fL_chance_LOutD at h
  show X p l e R s m args below meth c 5 cy D B 0 0 Q 0 [(0, .ref (B + oHB)), (1, .int p2), (2, .int p3), (3, .ref (B + oLOutD))] [] σ μ ω
  refine x_aload_n C dL_chance_0 rfl 3 rfl ?_
  refine x_iconst C (v := 0) dL_chance_1 (by decide) ?_
  refine x_aload_n C dL_chance_2 rfl 0 rfl ?_
  refine x_iload_n C dL_chance_3 rfl 1 rfl ?_
  refine x_iload_n C dL_chance_4 rfl 2 rfl ?_
  obtain ⟨q1, hk1, h⟩ := Option.bind_eq_some_iff.mp h
  refine x_callVX C (As := [.int p2, .int p3]) (rest := [.int (0 : Int32), .ref (B + oLOutD)]) (cells2 := 1) (slots2 := 6) (lw_g_mk tw_960 rfl) (lw_g_mk tw_961 rfl) (c_HB) (C1 := "HostelBeds") (T := TX5) (N := 12) (ci := 5) rfl (okX5_chance l hlf cy D B ek p2 p3 σ μ ω _ hk1) rfl rfl (by rw [hR9]; decide) (lw_g_mk tw_962 rfl) (lw_g_mk tw_1 rfl) (by decide) rfl (lw_g_mk tw_959 rfl) rfl (Nat.le_of_ble_eq_true rfl) dL_chance_5 (by rw [hR9]; decide) rfl rfl (fun v2 hv3 => ?_) (fun k4 hv5 => ?_)
  · rcases hq6 : q1.1 with x2 | e3
    · rw [hq6, Sum.elim_inl] at h
      rw [hq6] at hv3
      have hv3 : (Sum.inl (some (Value.double x2)) : Option Value ⊕ Nat) = .inl v2 := hv3
      cases hv3
      refine x_dast C _ (c_LOutD h9) (by decide : inb (0 : Int32) 1) dL_chance_8 (s_LOutD h9) ?_
      refine x_goto C (tgt := 16) dL_chance_9 (by decide) ?_
      refine x_iconst C (v := 0) dL_chance_16 (by decide) ?_
      cases h
      exact hret _ _ _ _ dL_chance_17 rfl (by decide) (by decide)
    · rw [hq6] at hv3; cases hv3
  · rcases hq7 : q1.1 with x2 | e3
    · rw [hq7] at hv5; cases hv5
    · rw [hq7, Sum.elim_inr] at h
      rw [hq7] at hv5
      have hv5 : (Sum.inr e3 : Option Value ⊕ Nat) = .inr k4 := hv5
      cases hv5
      by_cases hc8 : k4 = 3
      · rw [if_pos hc8] at h
        subst hc8
        refine x_catch C htab [] ⟨0, 9, 12, 36⟩ [] rfl (fun z hz => by cases hz) (by decide +kernel) (by decide) (lw_g_mk tw_753 rfl) (by decide +kernel) (fun q9 => ?_)
        refine x_astore C [(4, .ref q9), (0, .ref (B + oHB)), (1, .int p2), (2, .int p3), (3, .ref (B + oLOutD))] dL_chance_12 (by decide) rfl ?_
        refine x_iconst C (v := 1) dL_chance_14 (by decide) ?_
        cases h
        exact hret _ _ _ _ dL_chance_15 rfl (by decide) (by decide)
      rw [if_neg hc8] at h
      cases h
def fL_risk_LOutD (p2 : Int32) (σ : Mem) (ω : Mem) : Option (Int32 × Mem × Mem) := ((fX5_risk p2 σ).bind fun q1 => Sum.elim (fun x2 => (some ((0 : Int32), q1.2, wD ω 2 0 (0 : Int32).toNatClampNeg x2))) (fun e3 => (if e3 = 3 then (some ((1 : Int32), q1.2, ω)) else none)) q1.1)
set_option maxHeartbeats 4000000 in
set_option maxRecDepth 100000 in
theorem okL_risk_LOutD (l : Launch) (hlf : l.stackTraces = false) (cy : Nat → ClassId) (D : va_G) (B : Nat) (ek : EK) (h9 : ¬ cy 9 = 0) (p2 : Int32) (σ μ ω : Mem) (res : Int32 × Mem × Mem) (h : fL_risk_LOutD p2 σ ω = some res) : CTW l cy D B ek yL_risk cL_risk 4 (some .int) [(0, 8, 11, 36)] ({ frames := 8, cells := 1, slots := 6, locals := 164 } : Room) 1 6 [.ref (B + oHB), .int p2, .ref (B + oLOutD)] σ μ ω (some (.int res.1)) res.2.1 μ res.2.2 := by
  refine met_XW (own := "HostelBedsLaw") (by decide) rfl (Nat.le_of_ble_eq_true rfl) ?_
  intro p e s m args below meth c C hrT hlk htab
  have hret : ∀ (cells9 slots9 pc9 : Nat) (lcs9 : List (Nat × Value)), decode cL_risk pc9 = .ok (.ireturn, 1) → narrow .int (.int res.1) = .int res.1 → cells9 ≤ 1 → slots9 ≤ 6 → X p l e ({ frames := 8, cells := 1, slots := 6, locals := 164 } : Room) s m args below meth c 4 cy D B cells9 slots9 (vx_MQ below (QX cy D B (.inl (some (.int res.1))) res.2.1 μ res.2.2) (fun _ _ _ => False) args s 1 6 (aB B)) pc9 lcs9 [.int res.1] res.2.1 μ res.2.2 := fun cells9 slots9 pc9 lcs9 hd hn h1 h2 => x_zretX C hrT hlk hn hd h1 h2
  generalize (vx_MQ below (QX cy D B (.inl (some (.int res.1))) res.2.1 μ res.2.2) (fun _ _ _ => False) args s 1 6 (aB B)) = Q at hret ⊢
  obtain ⟨R, hR9⟩ : ∃ R : Room, R = ({ frames := 8, cells := 1, slots := 6, locals := 164 } : Room) := ⟨_, rfl⟩
  rw [← hR9] at hret ⊢
  unfold fL_risk_LOutD at h
  show X p l e R s m args below meth c 4 cy D B 0 0 Q 0 [(0, .ref (B + oHB)), (1, .int p2), (2, .ref (B + oLOutD))] [] σ μ ω
  refine x_aload_n C dL_risk_0 rfl 2 rfl ?_
  refine x_iconst C (v := 0) dL_risk_1 (by decide) ?_
  refine x_aload_n C dL_risk_2 rfl 0 rfl ?_
  refine x_iload_n C dL_risk_3 rfl 1 rfl ?_
  obtain ⟨q1, hk1, h⟩ := Option.bind_eq_some_iff.mp h
  refine x_callVX C (As := [.int p2]) (rest := [.int (0 : Int32), .ref (B + oLOutD)]) (cells2 := 1) (slots2 := 6) (lw_g_mk tw_976 rfl) (lw_g_mk tw_977 rfl) (c_HB) (C1 := "HostelBeds") (T := TX5) (N := 12) (ci := 5) rfl (okX5_risk l hlf cy D B ek p2 σ μ ω _ hk1) rfl rfl (by rw [hR9]; decide) (lw_g_mk tw_978 rfl) (lw_g_mk tw_1 rfl) (by decide) rfl (lw_g_mk tw_975 rfl) rfl (Nat.le_of_ble_eq_true rfl) dL_risk_4 (by rw [hR9]; decide) rfl rfl (fun v2 hv3 => ?_) (fun k4 hv5 => ?_)
  · rcases hq6 : q1.1 with x2 | e3
    · rw [hq6, Sum.elim_inl] at h
      rw [hq6] at hv3
      have hv3 : (Sum.inl (some (Value.double x2)) : Option Value ⊕ Nat) = .inl v2 := hv3
      cases hv3
      refine x_dast C _ (c_LOutD h9) (by decide : inb (0 : Int32) 1) dL_risk_7 (s_LOutD h9) ?_
      refine x_goto C (tgt := 14) dL_risk_8 (by decide) ?_
      refine x_iconst C (v := 0) dL_risk_14 (by decide) ?_
      cases h
      exact hret _ _ _ _ dL_risk_15 rfl (by decide) (by decide)
    · rw [hq6] at hv3; cases hv3
  · rcases hq7 : q1.1 with x2 | e3
    · rw [hq7] at hv5; cases hv5
    · rw [hq7, Sum.elim_inr] at h
      rw [hq7] at hv5
      have hv5 : (Sum.inr e3 : Option Value ⊕ Nat) = .inr k4 := hv5
      cases hv5
      by_cases hc8 : k4 = 3
      · rw [if_pos hc8] at h
        subst hc8
        refine x_catch C htab [] ⟨0, 8, 11, 36⟩ [] rfl (fun z hz => by cases hz) (by decide +kernel) (by decide) (lw_g_mk tw_753 rfl) (by decide +kernel) (fun q9 => ?_)
        refine x_astore_n C [(3, .ref q9), (0, .ref (B + oHB)), (1, .int p2), (2, .ref (B + oLOutD))] dL_risk_11 rfl (by decide) rfl ?_
        refine x_iconst C (v := 1) dL_risk_12 (by decide) ?_
        cases h
        exact hret _ _ _ _ dL_risk_13 rfl (by decide) (by decide)
      rw [if_neg hc8] at h
      cases h
def fL_expectedWalks_LOutD (p2 : Int32) (σ : Mem) (ω : Mem) : Option (Int32 × Mem × Mem) := ((fX5_expectedWalks p2 σ).bind fun q1 => Sum.elim (fun x2 => (some ((0 : Int32), q1.2, wD ω 2 0 (0 : Int32).toNatClampNeg x2))) (fun e3 => (if e3 = 3 then (some ((1 : Int32), q1.2, ω)) else none)) q1.1)
set_option maxHeartbeats 4000000 in
set_option maxRecDepth 100000 in
theorem okL_expectedWalks_LOutD (l : Launch) (hlf : l.stackTraces = false) (cy : Nat → ClassId) (D : va_G) (B : Nat) (ek : EK) (h9 : ¬ cy 9 = 0) (p2 : Int32) (σ μ ω : Mem) (res : Int32 × Mem × Mem) (h : fL_expectedWalks_LOutD p2 σ ω = some res) : CTW l cy D B ek yL_expectedWalks cL_expectedWalks 4 (some .int) [(0, 8, 11, 36)] ({ frames := 8, cells := 1, slots := 6, locals := 164 } : Room) 1 6 [.ref (B + oHB), .int p2, .ref (B + oLOutD)] σ μ ω (some (.int res.1)) res.2.1 μ res.2.2 := by
  refine met_XW (own := "HostelBedsLaw") (by decide) rfl (Nat.le_of_ble_eq_true rfl) ?_
  intro p e s m args below meth c C hrT hlk htab
  have hret : ∀ (cells9 slots9 pc9 : Nat) (lcs9 : List (Nat × Value)), decode cL_expectedWalks pc9 = .ok (.ireturn, 1) → narrow .int (.int res.1) = .int res.1 → cells9 ≤ 1 → slots9 ≤ 6 → X p l e ({ frames := 8, cells := 1, slots := 6, locals := 164 } : Room) s m args below meth c 4 cy D B cells9 slots9 (vx_MQ below (QX cy D B (.inl (some (.int res.1))) res.2.1 μ res.2.2) (fun _ _ _ => False) args s 1 6 (aB B)) pc9 lcs9 [.int res.1] res.2.1 μ res.2.2 := fun cells9 slots9 pc9 lcs9 hd hn h1 h2 => x_zretX C hrT hlk hn hd h1 h2
  generalize (vx_MQ below (QX cy D B (.inl (some (.int res.1))) res.2.1 μ res.2.2) (fun _ _ _ => False) args s 1 6 (aB B)) = Q at hret ⊢
  obtain ⟨R, hR9⟩ : ∃ R : Room, R = ({ frames := 8, cells := 1, slots := 6, locals := 164 } : Room) := ⟨_, rfl⟩
  rw [← hR9] at hret ⊢
  unfold fL_expectedWalks_LOutD at h
  show X p l e R s m args below meth c 4 cy D B 0 0 Q 0 [(0, .ref (B + oHB)), (1, .int p2), (2, .ref (B + oLOutD))] [] σ μ ω
  refine x_aload_n C dL_expectedWalks_0 rfl 2 rfl ?_
  refine x_iconst C (v := 0) dL_expectedWalks_1 (by decide) ?_
  refine x_aload_n C dL_expectedWalks_2 rfl 0 rfl ?_
  refine x_iload_n C dL_expectedWalks_3 rfl 1 rfl ?_
  obtain ⟨q1, hk1, h⟩ := Option.bind_eq_some_iff.mp h
  refine x_callVX C (As := [.int p2]) (rest := [.int (0 : Int32), .ref (B + oLOutD)]) (cells2 := 1) (slots2 := 6) (lw_g_mk tw_983 rfl) (lw_g_mk tw_984 rfl) (c_HB) (C1 := "HostelBeds") (T := TX5) (N := 12) (ci := 5) rfl (okX5_expectedWalks l hlf cy D B ek p2 σ μ ω _ hk1) rfl rfl (by rw [hR9]; decide) (lw_g_mk tw_985 rfl) (lw_g_mk tw_1 rfl) (by decide) rfl (lw_g_mk tw_982 rfl) rfl (Nat.le_of_ble_eq_true rfl) dL_expectedWalks_4 (by rw [hR9]; decide) rfl rfl (fun v2 hv3 => ?_) (fun k4 hv5 => ?_)
  · rcases hq6 : q1.1 with x2 | e3
    · rw [hq6, Sum.elim_inl] at h
      rw [hq6] at hv3
      have hv3 : (Sum.inl (some (Value.double x2)) : Option Value ⊕ Nat) = .inl v2 := hv3
      cases hv3
      refine x_dast C _ (c_LOutD h9) (by decide : inb (0 : Int32) 1) dL_expectedWalks_7 (s_LOutD h9) ?_
      refine x_goto C (tgt := 14) dL_expectedWalks_8 (by decide) ?_
      refine x_iconst C (v := 0) dL_expectedWalks_14 (by decide) ?_
      cases h
      exact hret _ _ _ _ dL_expectedWalks_15 rfl (by decide) (by decide)
    · rw [hq6] at hv3; cases hv3
  · rcases hq7 : q1.1 with x2 | e3
    · rw [hq7] at hv5; cases hv5
    · rw [hq7, Sum.elim_inr] at h
      rw [hq7] at hv5
      have hv5 : (Sum.inr e3 : Option Value ⊕ Nat) = .inr k4 := hv5
      cases hv5
      by_cases hc8 : k4 = 3
      · rw [if_pos hc8] at h
        subst hc8
        refine x_catch C htab [] ⟨0, 8, 11, 36⟩ [] rfl (fun z hz => by cases hz) (by decide +kernel) (by decide) (lw_g_mk tw_753 rfl) (by decide +kernel) (fun q9 => ?_)
        refine x_astore_n C [(3, .ref q9), (0, .ref (B + oHB)), (1, .int p2), (2, .ref (B + oLOutD))] dL_expectedWalks_11 rfl (by decide) rfl ?_
        refine x_iconst C (v := 1) dL_expectedWalks_12 (by decide) ?_
        cases h
        exact hret _ _ _ _ dL_expectedWalks_13 rfl (by decide) (by decide)
      rw [if_neg hc8] at h
      cases h
def fL_wouldBe_LOut (p2 : Int32) (p3 : Int32) (p4 : Int32) (p5 : Int32) (p6 : Int32) (σ : Mem) (ω : Mem) : Option (Int32 × Mem × Mem) := ((fX5_wouldBe p2 p3 p4 p5 p6 σ).bind fun q1 => Sum.elim (fun x2 => (some ((0 : Int32), q1.2, wJ ω 20 0 (0 : Int32).toNatClampNeg x2.toInt64))) (fun e3 => (if e3 = 2 then (some ((1 : Int32), q1.2, ω)) else none)) q1.1)
set_option maxHeartbeats 4000000 in
set_option maxRecDepth 100000 in
theorem okL_wouldBe_LOut (l : Launch) (hlf : l.stackTraces = false) (cy : Nat → ClassId) (D : va_G) (B : Nat) (ek : EK) (h9 : ¬ cy 9 = 0) (p2 : Int32) (p3 : Int32) (p4 : Int32) (p5 : Int32) (p6 : Int32) (σ μ ω : Mem) (res : Int32 × Mem × Mem) (h : fL_wouldBe_LOut p2 p3 p4 p5 p6 σ ω = some res) : CTW l cy D B ek yL_wouldBe cL_wouldBe 8 (some .int) [(0, 16, 19, 19)] ({ frames := 9, cells := 5, slots := 30, locals := 192 } : Room) 5 30 [.ref (B + oHB), .int p2, .int p3, .int p4, .int p5, .int p6, .ref (B + oLOut)] σ μ ω (some (.int res.1)) res.2.1 μ res.2.2 := by
  refine met_XW (own := "HostelBedsLaw") (by decide) rfl (Nat.le_of_ble_eq_true rfl) ?_
  intro p e s m args below meth c C hrT hlk htab
  have hret : ∀ (cells9 slots9 pc9 : Nat) (lcs9 : List (Nat × Value)), decode cL_wouldBe pc9 = .ok (.ireturn, 1) → narrow .int (.int res.1) = .int res.1 → cells9 ≤ 5 → slots9 ≤ 30 → X p l e ({ frames := 9, cells := 5, slots := 30, locals := 192 } : Room) s m args below meth c 8 cy D B cells9 slots9 (vx_MQ below (QX cy D B (.inl (some (.int res.1))) res.2.1 μ res.2.2) (fun _ _ _ => False) args s 5 30 (aB B)) pc9 lcs9 [.int res.1] res.2.1 μ res.2.2 := fun cells9 slots9 pc9 lcs9 hd hn h1 h2 => x_zretX C hrT hlk hn hd h1 h2
  generalize (vx_MQ below (QX cy D B (.inl (some (.int res.1))) res.2.1 μ res.2.2) (fun _ _ _ => False) args s 5 30 (aB B)) = Q at hret ⊢
  obtain ⟨R, hR9⟩ : ∃ R : Room, R = ({ frames := 9, cells := 5, slots := 30, locals := 192 } : Room) := ⟨_, rfl⟩
  rw [← hR9] at hret ⊢
  unfold fL_wouldBe_LOut at h
  show X p l e R s m args below meth c 8 cy D B 0 0 Q 0 [(0, .ref (B + oHB)), (1, .int p2), (2, .int p3), (3, .int p4), (4, .int p5), (5, .int p6), (6, .ref (B + oLOut))] [] σ μ ω
  refine x_aload C dL_wouldBe_0 6 rfl ?_
  refine x_iconst C (v := 0) dL_wouldBe_2 (by decide) ?_
  refine x_aload_n C dL_wouldBe_3 rfl 0 rfl ?_
  refine x_iload_n C dL_wouldBe_4 rfl 1 rfl ?_
  refine x_iload_n C dL_wouldBe_5 rfl 2 rfl ?_
  refine x_iload_n C dL_wouldBe_6 rfl 3 rfl ?_
  refine x_iload C dL_wouldBe_7 4 rfl ?_
  refine x_iload C dL_wouldBe_9 5 rfl ?_
  obtain ⟨q1, hk1, h⟩ := Option.bind_eq_some_iff.mp h
  refine x_callVX C (As := [.int p2, .int p3, .int p4, .int p5, .int p6]) (rest := [.int (0 : Int32), .ref (B + oLOut)]) (cells2 := 5) (slots2 := 30) (lw_g_mk tw_990 rfl) (lw_g_mk tw_991 rfl) (c_HB) (C1 := "HostelBeds") (T := TX5) (N := 12) (ci := 5) rfl (okX5_wouldBe l hlf cy D B ek p2 p3 p4 p5 p6 σ μ ω _ hk1) rfl rfl (by rw [hR9]; decide) (lw_g_mk tw_992 rfl) (lw_g_mk tw_1 rfl) (by decide) rfl (lw_g_mk tw_989 rfl) rfl (Nat.le_of_ble_eq_true rfl) dL_wouldBe_11 (by rw [hR9]; decide) rfl rfl (fun v2 hv3 => ?_) (fun k4 hv5 => ?_)
  · rcases hq6 : q1.1 with x2 | e3
    · rw [hq6, Sum.elim_inl] at h
      rw [hq6] at hv3
      have hv3 : (Sum.inl (some (Value.int x2)) : Option Value ⊕ Nat) = .inl v2 := hv3
      cases hv3
      refine x_i2l C dL_wouldBe_14 ?_
      refine x_last C _ (c_LOut h9) (by decide : inb (0 : Int32) 1) dL_wouldBe_15 (s_LOut h9) ?_
      refine x_goto C (tgt := 23) dL_wouldBe_16 (by decide) ?_
      refine x_iconst C (v := 0) dL_wouldBe_23 (by decide) ?_
      cases h
      exact hret _ _ _ _ dL_wouldBe_24 rfl (by decide) (by decide)
    · rw [hq6] at hv3; cases hv3
  · rcases hq7 : q1.1 with x2 | e3
    · rw [hq7] at hv5; cases hv5
    · rw [hq7, Sum.elim_inr] at h
      rw [hq7] at hv5
      have hv5 : (Sum.inr e3 : Option Value ⊕ Nat) = .inr k4 := hv5
      cases hv5
      by_cases hc8 : k4 = 2
      · rw [if_pos hc8] at h
        subst hc8
        refine x_catch C htab [] ⟨0, 16, 19, 19⟩ [] rfl (fun z hz => by cases hz) (by decide +kernel) (by decide) (lw_g_mk tw_552 rfl) (by decide +kernel) (fun q9 => ?_)
        refine x_astore C [(7, .ref q9), (0, .ref (B + oHB)), (1, .int p2), (2, .int p3), (3, .int p4), (4, .int p5), (5, .int p6), (6, .ref (B + oLOut))] dL_wouldBe_19 (by decide) rfl ?_
        refine x_iconst C (v := 1) dL_wouldBe_21 (by decide) ?_
        cases h
        exact hret _ _ _ _ dL_wouldBe_22 rfl (by decide) (by decide)
      rw [if_neg hc8] at h
      cases h
def fL_bestStay_LOut (p2 : Int32) (p3 : Int32) (p4 : Int32) (p5 : Int32) (σ : Mem) (ω : Mem) : Option (Int32 × Mem × Mem) := ((fX5_bestStay p2 p3 p4 p5 σ).bind fun q1 => Sum.elim (fun x2 => (some ((0 : Int32), q1.2, wJ ω 20 0 (0 : Int32).toNatClampNeg x2.toInt64))) (fun e3 => (if e3 = 2 then (some ((1 : Int32), q1.2, ω)) else none)) q1.1)
set_option maxHeartbeats 4000000 in
set_option maxRecDepth 100000 in
theorem okL_bestStay_LOut (l : Launch) (hlf : l.stackTraces = false) (cy : Nat → ClassId) (D : va_G) (B : Nat) (ek : EK) (h9 : ¬ cy 9 = 0) (p2 : Int32) (p3 : Int32) (p4 : Int32) (p5 : Int32) (σ μ ω : Mem) (res : Int32 × Mem × Mem) (h : fL_bestStay_LOut p2 p3 p4 p5 σ ω = some res) : CTW l cy D B ek yL_bestStay cL_bestStay 7 (some .int) [(0, 14, 17, 19)] ({ frames := 9, cells := 5, slots := 30, locals := 196 } : Room) 5 30 [.ref (B + oHB), .int p2, .int p3, .int p4, .int p5, .ref (B + oLOut)] σ μ ω (some (.int res.1)) res.2.1 μ res.2.2 := by
  refine met_XW (own := "HostelBedsLaw") (by decide) rfl (Nat.le_of_ble_eq_true rfl) ?_
  intro p e s m args below meth c C hrT hlk htab
  have hret : ∀ (cells9 slots9 pc9 : Nat) (lcs9 : List (Nat × Value)), decode cL_bestStay pc9 = .ok (.ireturn, 1) → narrow .int (.int res.1) = .int res.1 → cells9 ≤ 5 → slots9 ≤ 30 → X p l e ({ frames := 9, cells := 5, slots := 30, locals := 196 } : Room) s m args below meth c 7 cy D B cells9 slots9 (vx_MQ below (QX cy D B (.inl (some (.int res.1))) res.2.1 μ res.2.2) (fun _ _ _ => False) args s 5 30 (aB B)) pc9 lcs9 [.int res.1] res.2.1 μ res.2.2 := fun cells9 slots9 pc9 lcs9 hd hn h1 h2 => x_zretX C hrT hlk hn hd h1 h2
  generalize (vx_MQ below (QX cy D B (.inl (some (.int res.1))) res.2.1 μ res.2.2) (fun _ _ _ => False) args s 5 30 (aB B)) = Q at hret ⊢
  obtain ⟨R, hR9⟩ : ∃ R : Room, R = ({ frames := 9, cells := 5, slots := 30, locals := 196 } : Room) := ⟨_, rfl⟩
  rw [← hR9] at hret ⊢
  unfold fL_bestStay_LOut at h
  show X p l e R s m args below meth c 7 cy D B 0 0 Q 0 [(0, .ref (B + oHB)), (1, .int p2), (2, .int p3), (3, .int p4), (4, .int p5), (5, .ref (B + oLOut))] [] σ μ ω
  refine x_aload C dL_bestStay_0 5 rfl ?_
  refine x_iconst C (v := 0) dL_bestStay_2 (by decide) ?_
  refine x_aload_n C dL_bestStay_3 rfl 0 rfl ?_
  refine x_iload_n C dL_bestStay_4 rfl 1 rfl ?_
  refine x_iload_n C dL_bestStay_5 rfl 2 rfl ?_
  refine x_iload_n C dL_bestStay_6 rfl 3 rfl ?_
  refine x_iload C dL_bestStay_7 4 rfl ?_
  obtain ⟨q1, hk1, h⟩ := Option.bind_eq_some_iff.mp h
  refine x_callVX C (As := [.int p2, .int p3, .int p4, .int p5]) (rest := [.int (0 : Int32), .ref (B + oLOut)]) (cells2 := 5) (slots2 := 30) (lw_g_mk tw_1009 rfl) (lw_g_mk tw_1010 rfl) (c_HB) (C1 := "HostelBeds") (T := TX5) (N := 12) (ci := 5) rfl (okX5_bestStay l hlf cy D B ek p2 p3 p4 p5 σ μ ω _ hk1) rfl rfl (by rw [hR9]; decide) (lw_g_mk tw_1011 rfl) (lw_g_mk tw_1 rfl) (by decide) rfl (lw_g_mk tw_1008 rfl) rfl (Nat.le_of_ble_eq_true rfl) dL_bestStay_9 (by rw [hR9]; decide) rfl rfl (fun v2 hv3 => ?_) (fun k4 hv5 => ?_)
  · rcases hq6 : q1.1 with x2 | e3
    · rw [hq6, Sum.elim_inl] at h
      rw [hq6] at hv3
      have hv3 : (Sum.inl (some (Value.int x2)) : Option Value ⊕ Nat) = .inl v2 := hv3
      cases hv3
      refine x_i2l C dL_bestStay_12 ?_
      refine x_last C _ (c_LOut h9) (by decide : inb (0 : Int32) 1) dL_bestStay_13 (s_LOut h9) ?_
      refine x_goto C (tgt := 21) dL_bestStay_14 (by decide) ?_
      refine x_iconst C (v := 0) dL_bestStay_21 (by decide) ?_
      cases h
      exact hret _ _ _ _ dL_bestStay_22 rfl (by decide) (by decide)
    · rw [hq6] at hv3; cases hv3
  · rcases hq7 : q1.1 with x2 | e3
    · rw [hq7] at hv5; cases hv5
    · rw [hq7, Sum.elim_inr] at h
      rw [hq7] at hv5
      have hv5 : (Sum.inr e3 : Option Value ⊕ Nat) = .inr k4 := hv5
      cases hv5
      by_cases hc8 : k4 = 2
      · rw [if_pos hc8] at h
        subst hc8
        refine x_catch C htab [] ⟨0, 14, 17, 19⟩ [] rfl (fun z hz => by cases hz) (by decide +kernel) (by decide) (lw_g_mk tw_552 rfl) (by decide +kernel) (fun q9 => ?_)
        refine x_astore C [(6, .ref q9), (0, .ref (B + oHB)), (1, .int p2), (2, .int p3), (3, .int p4), (4, .int p5), (5, .ref (B + oLOut))] dL_bestStay_17 (by decide) rfl ?_
        refine x_iconst C (v := 1) dL_bestStay_19 (by decide) ?_
        cases h
        exact hret _ _ _ _ dL_bestStay_20 rfl (by decide) (by decide)
      rw [if_neg hc8] at h
      cases h
def fL_netWithout_LOut (p2 : Int32) (σ : Mem) (ω : Mem) : Option (Int32 × Mem × Mem) := ((fX5_netWithout p2 σ).bind fun q1 => Sum.elim (fun x2 => (some ((0 : Int32), q1.2, wJ ω 20 0 (0 : Int32).toNatClampNeg x2.toInt64))) (fun e3 => (if e3 = 3 then (some ((1 : Int32), q1.2, ω)) else none)) q1.1)
set_option maxHeartbeats 4000000 in
set_option maxRecDepth 100000 in
theorem okL_netWithout_LOut (l : Launch) (hlf : l.stackTraces = false) (cy : Nat → ClassId) (D : va_G) (B : Nat) (ek : EK) (h9 : ¬ cy 9 = 0) (p2 : Int32) (σ μ ω : Mem) (res : Int32 × Mem × Mem) (h : fL_netWithout_LOut p2 σ ω = some res) : CTW l cy D B ek yL_netWithout cL_netWithout 4 (some .int) [(0, 9, 12, 36)] ({ frames := 8, cells := 1, slots := 6, locals := 163 } : Room) 1 6 [.ref (B + oHB), .int p2, .ref (B + oLOut)] σ μ ω (some (.int res.1)) res.2.1 μ res.2.2 := by
  refine met_XW (own := "HostelBedsLaw") (by decide) rfl (Nat.le_of_ble_eq_true rfl) ?_
  intro p e s m args below meth c C hrT hlk htab
  have hret : ∀ (cells9 slots9 pc9 : Nat) (lcs9 : List (Nat × Value)), decode cL_netWithout pc9 = .ok (.ireturn, 1) → narrow .int (.int res.1) = .int res.1 → cells9 ≤ 1 → slots9 ≤ 6 → X p l e ({ frames := 8, cells := 1, slots := 6, locals := 163 } : Room) s m args below meth c 4 cy D B cells9 slots9 (vx_MQ below (QX cy D B (.inl (some (.int res.1))) res.2.1 μ res.2.2) (fun _ _ _ => False) args s 1 6 (aB B)) pc9 lcs9 [.int res.1] res.2.1 μ res.2.2 := fun cells9 slots9 pc9 lcs9 hd hn h1 h2 => x_zretX C hrT hlk hn hd h1 h2
  generalize (vx_MQ below (QX cy D B (.inl (some (.int res.1))) res.2.1 μ res.2.2) (fun _ _ _ => False) args s 1 6 (aB B)) = Q at hret ⊢
  obtain ⟨R, hR9⟩ : ∃ R : Room, R = ({ frames := 8, cells := 1, slots := 6, locals := 163 } : Room) := ⟨_, rfl⟩
  rw [← hR9] at hret ⊢
  unfold fL_netWithout_LOut at h
  show X p l e R s m args below meth c 4 cy D B 0 0 Q 0 [(0, .ref (B + oHB)), (1, .int p2), (2, .ref (B + oLOut))] [] σ μ ω
  refine x_aload_n C dL_netWithout_0 rfl 2 rfl ?_
  refine x_iconst C (v := 0) dL_netWithout_1 (by decide) ?_
  refine x_aload_n C dL_netWithout_2 rfl 0 rfl ?_
  refine x_iload_n C dL_netWithout_3 rfl 1 rfl ?_
  obtain ⟨q1, hk1, h⟩ := Option.bind_eq_some_iff.mp h
  refine x_callVX C (As := [.int p2]) (rest := [.int (0 : Int32), .ref (B + oLOut)]) (cells2 := 1) (slots2 := 6) (lw_g_mk tw_1016 rfl) (lw_g_mk tw_1017 rfl) (c_HB) (C1 := "HostelBeds") (T := TX5) (N := 12) (ci := 5) rfl (okX5_netWithout l hlf cy D B ek p2 σ μ ω _ hk1) rfl rfl (by rw [hR9]; decide) (lw_g_mk tw_1018 rfl) (lw_g_mk tw_1 rfl) (by decide) rfl (lw_g_mk tw_1015 rfl) rfl (Nat.le_of_ble_eq_true rfl) dL_netWithout_4 (by rw [hR9]; decide) rfl rfl (fun v2 hv3 => ?_) (fun k4 hv5 => ?_)
  · rcases hq6 : q1.1 with x2 | e3
    · rw [hq6, Sum.elim_inl] at h
      rw [hq6] at hv3
      have hv3 : (Sum.inl (some (Value.int x2)) : Option Value ⊕ Nat) = .inl v2 := hv3
      cases hv3
      refine x_i2l C dL_netWithout_7 ?_
      refine x_last C _ (c_LOut h9) (by decide : inb (0 : Int32) 1) dL_netWithout_8 (s_LOut h9) ?_
      refine x_goto C (tgt := 15) dL_netWithout_9 (by decide) ?_
      refine x_iconst C (v := 0) dL_netWithout_15 (by decide) ?_
      cases h
      exact hret _ _ _ _ dL_netWithout_16 rfl (by decide) (by decide)
    · rw [hq6] at hv3; cases hv3
  · rcases hq7 : q1.1 with x2 | e3
    · rw [hq7] at hv5; cases hv5
    · rw [hq7, Sum.elim_inr] at h
      rw [hq7] at hv5
      have hv5 : (Sum.inr e3 : Option Value ⊕ Nat) = .inr k4 := hv5
      cases hv5
      by_cases hc8 : k4 = 3
      · rw [if_pos hc8] at h
        subst hc8
        refine x_catch C htab [] ⟨0, 9, 12, 36⟩ [] rfl (fun z hz => by cases hz) (by decide +kernel) (by decide) (lw_g_mk tw_753 rfl) (by decide +kernel) (fun q9 => ?_)
        refine x_astore_n C [(3, .ref q9), (0, .ref (B + oHB)), (1, .int p2), (2, .ref (B + oLOut))] dL_netWithout_12 rfl (by decide) rfl ?_
        refine x_iconst C (v := 1) dL_netWithout_13 (by decide) ?_
        cases h
        exact hret _ _ _ _ dL_netWithout_14 rfl (by decide) (by decide)
      rw [if_neg hc8] at h
      cases h
def fL_book_LOut (p2 : Int32) (p3 : Int32) (p4 : Int32) (p5 : Int32) (p6 : Int32) (p7 : Int32) (σ : Mem) (ω : Mem) : Option (Int32 × Mem × Mem) := ((fX5_book p2 p3 p4 p5 p6 p7 σ).bind fun q1 => Sum.elim (fun x2 => (some ((0 : Int32), q1.2, wJ ω 20 0 (0 : Int32).toNatClampNeg x2.toInt64))) (fun e3 => (if e3 = 2 then (some ((1 : Int32), q1.2, ω)) else (if e3 = 1 then (some ((2 : Int32), q1.2, ω)) else none))) q1.1)
set_option maxHeartbeats 4000000 in
set_option maxRecDepth 100000 in
theorem okL_book_LOut (l : Launch) (hlf : l.stackTraces = false) (cy : Nat → ClassId) (D : va_G) (B : Nat) (ek : EK) (h9 : ¬ cy 9 = 0) (p2 : Int32) (p3 : Int32) (p4 : Int32) (p5 : Int32) (p6 : Int32) (p7 : Int32) (σ μ ω : Mem) (res : Int32 × Mem × Mem) (h : fL_book_LOut p2 p3 p4 p5 p6 p7 σ ω = some res) : CTW l cy D B ek yL_book cL_book 9 (some .int) [(0, 18, 21, 19), (0, 18, 25, 13)] ({ frames := 9, cells := 7, slots := 42, locals := 192 } : Room) 7 42 [.ref (B + oHB), .int p2, .int p3, .int p4, .int p5, .int p6, .int p7, .ref (B + oLOut)] σ μ ω (some (.int res.1)) res.2.1 μ res.2.2 := by
  refine met_XW (own := "HostelBedsLaw") (by decide) rfl (Nat.le_of_ble_eq_true rfl) ?_
  intro p e s m args below meth c C hrT hlk htab
  have hret : ∀ (cells9 slots9 pc9 : Nat) (lcs9 : List (Nat × Value)), decode cL_book pc9 = .ok (.ireturn, 1) → narrow .int (.int res.1) = .int res.1 → cells9 ≤ 7 → slots9 ≤ 42 → X p l e ({ frames := 9, cells := 7, slots := 42, locals := 192 } : Room) s m args below meth c 9 cy D B cells9 slots9 (vx_MQ below (QX cy D B (.inl (some (.int res.1))) res.2.1 μ res.2.2) (fun _ _ _ => False) args s 7 42 (aB B)) pc9 lcs9 [.int res.1] res.2.1 μ res.2.2 := fun cells9 slots9 pc9 lcs9 hd hn h1 h2 => x_zretX C hrT hlk hn hd h1 h2
  generalize (vx_MQ below (QX cy D B (.inl (some (.int res.1))) res.2.1 μ res.2.2) (fun _ _ _ => False) args s 7 42 (aB B)) = Q at hret ⊢
  obtain ⟨R, hR9⟩ : ∃ R : Room, R = ({ frames := 9, cells := 7, slots := 42, locals := 192 } : Room) := ⟨_, rfl⟩
  rw [← hR9] at hret ⊢
  unfold fL_book_LOut at h
  show X p l e R s m args below meth c 9 cy D B 0 0 Q 0 [(0, .ref (B + oHB)), (1, .int p2), (2, .int p3), (3, .int p4), (4, .int p5), (5, .int p6), (6, .int p7), (7, .ref (B + oLOut))] [] σ μ ω
  refine x_aload C dL_book_0 7 rfl ?_
  refine x_iconst C (v := 0) dL_book_2 (by decide) ?_
  refine x_aload_n C dL_book_3 rfl 0 rfl ?_
  refine x_iload_n C dL_book_4 rfl 1 rfl ?_
  refine x_iload_n C dL_book_5 rfl 2 rfl ?_
  refine x_iload_n C dL_book_6 rfl 3 rfl ?_
  refine x_iload C dL_book_7 4 rfl ?_
  refine x_iload C dL_book_9 5 rfl ?_
  refine x_iload C dL_book_11 6 rfl ?_
  obtain ⟨q1, hk1, h⟩ := Option.bind_eq_some_iff.mp h
  refine x_callVX C (As := [.int p2, .int p3, .int p4, .int p5, .int p6, .int p7]) (rest := [.int (0 : Int32), .ref (B + oLOut)]) (cells2 := 7) (slots2 := 42) (lw_g_mk tw_1024 rfl) (lw_g_mk tw_1025 rfl) (c_HB) (C1 := "HostelBeds") (T := TX5) (N := 12) (ci := 5) rfl (okX5_book l hlf cy D B ek p2 p3 p4 p5 p6 p7 σ μ ω _ hk1) rfl rfl (by rw [hR9]; decide) (lw_g_mk tw_1026 rfl) (lw_g_mk tw_1 rfl) (by decide) rfl (lw_g_mk tw_1023 rfl) rfl (Nat.le_of_ble_eq_true rfl) dL_book_13 (by rw [hR9]; decide) rfl rfl (fun v2 hv3 => ?_) (fun k4 hv5 => ?_)
  · rcases hq6 : q1.1 with x2 | e3
    · rw [hq6, Sum.elim_inl] at h
      rw [hq6] at hv3
      have hv3 : (Sum.inl (some (Value.int x2)) : Option Value ⊕ Nat) = .inl v2 := hv3
      cases hv3
      refine x_i2l C dL_book_16 ?_
      refine x_last C _ (c_LOut h9) (by decide : inb (0 : Int32) 1) dL_book_17 (s_LOut h9) ?_
      refine x_goto C (tgt := 29) dL_book_18 (by decide) ?_
      refine x_iconst C (v := 0) dL_book_29 (by decide) ?_
      cases h
      exact hret _ _ _ _ dL_book_30 rfl (by decide) (by decide)
    · rw [hq6] at hv3; cases hv3
  · rcases hq7 : q1.1 with x2 | e3
    · rw [hq7] at hv5; cases hv5
    · rw [hq7, Sum.elim_inr] at h
      rw [hq7] at hv5
      have hv5 : (Sum.inr e3 : Option Value ⊕ Nat) = .inr k4 := hv5
      cases hv5
      by_cases hc8 : k4 = 2
      · rw [if_pos hc8] at h
        subst hc8
        refine x_catch C htab [] ⟨0, 18, 21, 19⟩ [⟨0, 18, 25, 13⟩] rfl (fun z hz => by cases hz) (by decide +kernel) (by decide) (lw_g_mk tw_552 rfl) (by decide +kernel) (fun q9 => ?_)
        refine x_astore C [(8, .ref q9), (0, .ref (B + oHB)), (1, .int p2), (2, .int p3), (3, .int p4), (4, .int p5), (5, .int p6), (6, .int p7), (7, .ref (B + oLOut))] dL_book_21 (by decide) rfl ?_
        refine x_iconst C (v := 1) dL_book_23 (by decide) ?_
        cases h
        exact hret _ _ _ _ dL_book_24 rfl (by decide) (by decide)
      rw [if_neg hc8] at h
      by_cases hc10 : k4 = 1
      · rw [if_pos hc10] at h
        subst hc10
        refine x_catch C htab [⟨0, 18, 21, 19⟩] ⟨0, 18, 25, 13⟩ [] rfl (fun z hz => by rcases List.mem_singleton.mp hz with rfl; exact ⟨by decide, "java/lang/IllegalArgumentException", lw_g_mk tw_552 rfl, by decide +kernel⟩) (by decide +kernel) (by decide) (lw_g_mk tw_472 rfl) (by decide +kernel) (fun q11 => ?_)
        refine x_astore C [(8, .ref q11), (0, .ref (B + oHB)), (1, .int p2), (2, .int p3), (3, .int p4), (4, .int p5), (5, .int p6), (6, .int p7), (7, .ref (B + oLOut))] dL_book_25 (by decide) rfl ?_
        refine x_iconst C (v := 2) dL_book_27 (by decide) ?_
        cases h
        exact hret _ _ _ _ dL_book_28 rfl (by decide) (by decide)
      rw [if_neg hc10] at h
      cases h
def fL_cancel_LOut (p2 : Int32) (σ : Mem) (ω : Mem) : Option (Int32 × Mem × Mem) := ((fX5_cancel p2 σ).bind fun q1 => Sum.elim (fun x2 => (some ((0 : Int32), q1.2, wJ ω 20 0 (0 : Int32).toNatClampNeg x2.toInt64))) (fun e3 => (if e3 = 3 then (some ((1 : Int32), q1.2, ω)) else (if e3 = 1 then (some ((2 : Int32), q1.2, ω)) else none))) q1.1)
set_option maxHeartbeats 4000000 in
set_option maxRecDepth 100000 in
theorem okL_cancel_LOut (l : Launch) (hlf : l.stackTraces = false) (cy : Nat → ClassId) (D : va_G) (B : Nat) (ek : EK) (h9 : ¬ cy 9 = 0) (p2 : Int32) (σ μ ω : Mem) (res : Int32 × Mem × Mem) (h : fL_cancel_LOut p2 σ ω = some res) : CTW l cy D B ek yL_cancel cL_cancel 4 (some .int) [(0, 9, 12, 36), (0, 9, 15, 13)] ({ frames := 8, cells := 2, slots := 12, locals := 163 } : Room) 2 12 [.ref (B + oHB), .int p2, .ref (B + oLOut)] σ μ ω (some (.int res.1)) res.2.1 μ res.2.2 := by
  refine met_XW (own := "HostelBedsLaw") (by decide) rfl (Nat.le_of_ble_eq_true rfl) ?_
  intro p e s m args below meth c C hrT hlk htab
  have hret : ∀ (cells9 slots9 pc9 : Nat) (lcs9 : List (Nat × Value)), decode cL_cancel pc9 = .ok (.ireturn, 1) → narrow .int (.int res.1) = .int res.1 → cells9 ≤ 2 → slots9 ≤ 12 → X p l e ({ frames := 8, cells := 2, slots := 12, locals := 163 } : Room) s m args below meth c 4 cy D B cells9 slots9 (vx_MQ below (QX cy D B (.inl (some (.int res.1))) res.2.1 μ res.2.2) (fun _ _ _ => False) args s 2 12 (aB B)) pc9 lcs9 [.int res.1] res.2.1 μ res.2.2 := fun cells9 slots9 pc9 lcs9 hd hn h1 h2 => x_zretX C hrT hlk hn hd h1 h2
  generalize (vx_MQ below (QX cy D B (.inl (some (.int res.1))) res.2.1 μ res.2.2) (fun _ _ _ => False) args s 2 12 (aB B)) = Q at hret ⊢
  obtain ⟨R, hR9⟩ : ∃ R : Room, R = ({ frames := 8, cells := 2, slots := 12, locals := 163 } : Room) := ⟨_, rfl⟩
  rw [← hR9] at hret ⊢
  unfold fL_cancel_LOut at h
  show X p l e R s m args below meth c 4 cy D B 0 0 Q 0 [(0, .ref (B + oHB)), (1, .int p2), (2, .ref (B + oLOut))] [] σ μ ω
  refine x_aload_n C dL_cancel_0 rfl 2 rfl ?_
  refine x_iconst C (v := 0) dL_cancel_1 (by decide) ?_
  refine x_aload_n C dL_cancel_2 rfl 0 rfl ?_
  refine x_iload_n C dL_cancel_3 rfl 1 rfl ?_
  obtain ⟨q1, hk1, h⟩ := Option.bind_eq_some_iff.mp h
  refine x_callVX C (As := [.int p2]) (rest := [.int (0 : Int32), .ref (B + oLOut)]) (cells2 := 2) (slots2 := 12) (lw_g_mk tw_1038 rfl) (lw_g_mk tw_1039 rfl) (c_HB) (C1 := "HostelBeds") (T := TX5) (N := 12) (ci := 5) rfl (okX5_cancel l hlf cy D B ek p2 σ μ ω _ hk1) rfl rfl (by rw [hR9]; decide) (lw_g_mk tw_1040 rfl) (lw_g_mk tw_1 rfl) (by decide) rfl (lw_g_mk tw_1037 rfl) rfl (Nat.le_of_ble_eq_true rfl) dL_cancel_4 (by rw [hR9]; decide) rfl rfl (fun v2 hv3 => ?_) (fun k4 hv5 => ?_)
  · rcases hq6 : q1.1 with x2 | e3
    · rw [hq6, Sum.elim_inl] at h
      rw [hq6] at hv3
      have hv3 : (Sum.inl (some (Value.int x2)) : Option Value ⊕ Nat) = .inl v2 := hv3
      cases hv3
      refine x_i2l C dL_cancel_7 ?_
      refine x_last C _ (c_LOut h9) (by decide : inb (0 : Int32) 1) dL_cancel_8 (s_LOut h9) ?_
      refine x_goto C (tgt := 18) dL_cancel_9 (by decide) ?_
      refine x_iconst C (v := 0) dL_cancel_18 (by decide) ?_
      cases h
      exact hret _ _ _ _ dL_cancel_19 rfl (by decide) (by decide)
    · rw [hq6] at hv3; cases hv3
  · rcases hq7 : q1.1 with x2 | e3
    · rw [hq7] at hv5; cases hv5
    · rw [hq7, Sum.elim_inr] at h
      rw [hq7] at hv5
      have hv5 : (Sum.inr e3 : Option Value ⊕ Nat) = .inr k4 := hv5
      cases hv5
      by_cases hc8 : k4 = 3
      · rw [if_pos hc8] at h
        subst hc8
        refine x_catch C htab [] ⟨0, 9, 12, 36⟩ [⟨0, 9, 15, 13⟩] rfl (fun z hz => by cases hz) (by decide +kernel) (by decide) (lw_g_mk tw_753 rfl) (by decide +kernel) (fun q9 => ?_)
        refine x_astore_n C [(3, .ref q9), (0, .ref (B + oHB)), (1, .int p2), (2, .ref (B + oLOut))] dL_cancel_12 rfl (by decide) rfl ?_
        refine x_iconst C (v := 1) dL_cancel_13 (by decide) ?_
        cases h
        exact hret _ _ _ _ dL_cancel_14 rfl (by decide) (by decide)
      rw [if_neg hc8] at h
      by_cases hc10 : k4 = 1
      · rw [if_pos hc10] at h
        subst hc10
        refine x_catch C htab [⟨0, 9, 12, 36⟩] ⟨0, 9, 15, 13⟩ [] rfl (fun z hz => by rcases List.mem_singleton.mp hz with rfl; exact ⟨by decide, "java/lang/IndexOutOfBoundsException", lw_g_mk tw_753 rfl, by decide +kernel⟩) (by decide +kernel) (by decide) (lw_g_mk tw_472 rfl) (by decide +kernel) (fun q11 => ?_)
        refine x_astore_n C [(3, .ref q11), (0, .ref (B + oHB)), (1, .int p2), (2, .ref (B + oLOut))] dL_cancel_15 rfl (by decide) rfl ?_
        refine x_iconst C (v := 2) dL_cancel_16 (by decide) ?_
        cases h
        exact hret _ _ _ _ dL_cancel_17 rfl (by decide) (by decide)
      rw [if_neg hc10] at h
      cases h
def jL_setAbsent_LOut_16 (q1 : (Int32 ⊕ Nat) × Mem) (ω : Mem) (t4 : Int64) : Option (Int32 × Mem × Mem) := (some ((0 : Int32), q1.2, wJ ω 20 0 (0 : Int32).toNatClampNeg t4))
def fL_setAbsent_LOut (p2 : Int32) (p3 : Int32) (σ : Mem) (ω : Mem) : Option (Int32 × Mem × Mem) := ((fX5_setAbsent p2 p3 σ).bind fun q1 => Sum.elim (fun x2 => (if x2 = 0 then (jL_setAbsent_LOut_16 q1 ω (0 : Int64)) else (jL_setAbsent_LOut_16 q1 ω (1 : Int64)))) (fun e3 => (if e3 = 3 then (some ((1 : Int32), q1.2, ω)) else none)) q1.1)
set_option maxHeartbeats 4000000 in
set_option maxRecDepth 100000 in
theorem okL_setAbsent_LOut (l : Launch) (hlf : l.stackTraces = false) (cy : Nat → ClassId) (D : va_G) (B : Nat) (ek : EK) (h9 : ¬ cy 9 = 0) (p2 : Int32) (p3 : Int32) (σ μ ω : Mem) (res : Int32 × Mem × Mem) (h : fL_setAbsent_LOut p2 p3 σ ω = some res) : CTW l cy D B ek yL_setAbsent cL_setAbsent 5 (some .int) [(0, 17, 20, 36)] ({ frames := 8, cells := 1, slots := 6, locals := 164 } : Room) 1 6 [.ref (B + oHB), .int p2, .int p3, .ref (B + oLOut)] σ μ ω (some (.int res.1)) res.2.1 μ res.2.2 := by
  refine met_XW (own := "HostelBedsLaw") (by decide) rfl (Nat.le_of_ble_eq_true rfl) ?_
  intro p e s m args below meth c C hrT hlk htab
  have hret : ∀ (cells9 slots9 pc9 : Nat) (lcs9 : List (Nat × Value)), decode cL_setAbsent pc9 = .ok (.ireturn, 1) → narrow .int (.int res.1) = .int res.1 → cells9 ≤ 1 → slots9 ≤ 6 → X p l e ({ frames := 8, cells := 1, slots := 6, locals := 164 } : Room) s m args below meth c 5 cy D B cells9 slots9 (vx_MQ below (QX cy D B (.inl (some (.int res.1))) res.2.1 μ res.2.2) (fun _ _ _ => False) args s 1 6 (aB B)) pc9 lcs9 [.int res.1] res.2.1 μ res.2.2 := fun cells9 slots9 pc9 lcs9 hd hn h1 h2 => x_zretX C hrT hlk hn hd h1 h2
  generalize (vx_MQ below (QX cy D B (.inl (some (.int res.1))) res.2.1 μ res.2.2) (fun _ _ _ => False) args s 1 6 (aB B)) = Q at hret ⊢
  obtain ⟨R, hR9⟩ : ∃ R : Room, R = ({ frames := 8, cells := 1, slots := 6, locals := 164 } : Room) := ⟨_, rfl⟩
  rw [← hR9] at hret ⊢
  unfold fL_setAbsent_LOut at h
  show X p l e R s m args below meth c 5 cy D B 0 0 Q 0 [(0, .ref (B + oHB)), (1, .int p2), (2, .int p3), (3, .ref (B + oLOut))] [] σ μ ω
  refine x_aload_n C dL_setAbsent_0 rfl 3 rfl ?_
  refine x_iconst C (v := 0) dL_setAbsent_1 (by decide) ?_
  refine x_aload_n C dL_setAbsent_2 rfl 0 rfl ?_
  refine x_iload_n C dL_setAbsent_3 rfl 1 rfl ?_
  refine x_iload_n C dL_setAbsent_4 rfl 2 rfl ?_
  obtain ⟨q1, hk1, h⟩ := Option.bind_eq_some_iff.mp h
  refine x_callVX C (As := [.int p2, .int p3]) (rest := [.int (0 : Int32), .ref (B + oLOut)]) (cells2 := 1) (slots2 := 6) (lw_g_mk tw_1047 rfl) (lw_g_mk tw_1048 rfl) (c_HB) (C1 := "HostelBeds") (T := TX5) (N := 12) (ci := 5) rfl (okX5_setAbsent l hlf cy D B ek p2 p3 σ μ ω _ hk1) rfl rfl (by rw [hR9]; decide) (lw_g_mk tw_1049 rfl) (lw_g_mk tw_1 rfl) (by decide) rfl (lw_g_mk tw_1046 rfl) rfl (Nat.le_of_ble_eq_true rfl) dL_setAbsent_5 (by rw [hR9]; decide) rfl rfl (fun v2 hv3 => ?_) (fun k4 hv5 => ?_)
  · rcases hq6 : q1.1 with x2 | e3
    · rw [hq6, Sum.elim_inl] at h
      rw [hq6] at hv3
      have hv3 : (Sum.inl (some (Value.int x2)) : Option Value ⊕ Nat) = .inl v2 := hv3
      cases hv3
      have hJ7 : ∀ (t4 : Int64) (r9 : Int32 × Mem × Mem), jL_setAbsent_LOut_16 q1 ω t4 = some r9 → (∀ (cells9 slots9 pc9 : Nat) (lcs9 : List (Nat × Value)), decode cL_setAbsent pc9 = .ok (.ireturn, 1) → narrow .int (.int r9.1) = .int r9.1 → cells9 ≤ 1 → slots9 ≤ 6 → X p l e R s m args below meth c 5 cy D B cells9 slots9 Q pc9 lcs9 [.int r9.1] r9.2.1 μ r9.2.2) → X p l e R s m args below meth c 5 cy D B 1 6 Q 16 [] [.long t4, .int (0 : Int32), .ref (B + oLOut)] q1.2 μ ω := by
        intro t4 res9 h hret
        unfold jL_setAbsent_LOut_16 at h
        refine x_last C _ (c_LOut h9) (by decide : inb (0 : Int32) 1) dL_setAbsent_16 (s_LOut h9) ?_
        refine x_goto C (tgt := 24) dL_setAbsent_17 (by decide) ?_
        refine x_iconst C (v := 0) dL_setAbsent_24 (by decide) ?_
        cases h
        exact hret _ _ _ _ dL_setAbsent_25 rfl (by decide) (by decide)
      refine x_if_eq C (tgt := 15) dL_setAbsent_8 (by decide) (fun hc8 => ?_) (fun hc8 => ?_)
      · rw [if_pos hc8] at h
        refine x_lconst C (v := 0) dL_setAbsent_15 (by decide) ?_
        refine x_sub [] rfl ?_
        exact hJ7 (0 : Int64) _ h hret
      · rw [if_neg hc8] at h
        refine x_lconst C (v := 1) dL_setAbsent_11 (by decide) ?_
        refine x_goto C (tgt := 16) dL_setAbsent_12 (by decide) ?_
        refine x_sub [] rfl ?_
        exact hJ7 (1 : Int64) _ h hret
    · rw [hq6] at hv3; cases hv3
  · rcases hq9 : q1.1 with x2 | e3
    · rw [hq9] at hv5; cases hv5
    · rw [hq9, Sum.elim_inr] at h
      rw [hq9] at hv5
      have hv5 : (Sum.inr e3 : Option Value ⊕ Nat) = .inr k4 := hv5
      cases hv5
      by_cases hc10 : k4 = 3
      · rw [if_pos hc10] at h
        subst hc10
        refine x_catch C htab [] ⟨0, 17, 20, 36⟩ [] rfl (fun z hz => by cases hz) (by decide +kernel) (by decide) (lw_g_mk tw_753 rfl) (by decide +kernel) (fun q11 => ?_)
        refine x_astore C [(4, .ref q11), (0, .ref (B + oHB)), (1, .int p2), (2, .int p3), (3, .ref (B + oLOut))] dL_setAbsent_20 (by decide) rfl ?_
        refine x_iconst C (v := 1) dL_setAbsent_22 (by decide) ?_
        cases h
        exact hret _ _ _ _ dL_setAbsent_23 rfl (by decide) (by decide)
      rw [if_neg hc10] at h
      cases h
def jL_setTogether_LOut_16 (q1 : (Int32 ⊕ Nat) × Mem) (ω : Mem) (t4 : Int64) : Option (Int32 × Mem × Mem) := (some ((0 : Int32), q1.2, wJ ω 20 0 (0 : Int32).toNatClampNeg t4))
def fL_setTogether_LOut (p2 : Int32) (p3 : Int32) (σ : Mem) (ω : Mem) : Option (Int32 × Mem × Mem) := ((fX5_setTogether p2 p3 σ).bind fun q1 => Sum.elim (fun x2 => (if x2 = 0 then (jL_setTogether_LOut_16 q1 ω (0 : Int64)) else (jL_setTogether_LOut_16 q1 ω (1 : Int64)))) (fun e3 => (if e3 = 3 then (some ((1 : Int32), q1.2, ω)) else none)) q1.1)
set_option maxHeartbeats 4000000 in
set_option maxRecDepth 100000 in
theorem okL_setTogether_LOut (l : Launch) (hlf : l.stackTraces = false) (cy : Nat → ClassId) (D : va_G) (B : Nat) (ek : EK) (h9 : ¬ cy 9 = 0) (p2 : Int32) (p3 : Int32) (σ μ ω : Mem) (res : Int32 × Mem × Mem) (h : fL_setTogether_LOut p2 p3 σ ω = some res) : CTW l cy D B ek yL_setTogether cL_setTogether 5 (some .int) [(0, 17, 20, 36)] ({ frames := 8, cells := 1, slots := 6, locals := 164 } : Room) 1 6 [.ref (B + oHB), .int p2, .int p3, .ref (B + oLOut)] σ μ ω (some (.int res.1)) res.2.1 μ res.2.2 := by
  refine met_XW (own := "HostelBedsLaw") (by decide) rfl (Nat.le_of_ble_eq_true rfl) ?_
  intro p e s m args below meth c C hrT hlk htab
  have hret : ∀ (cells9 slots9 pc9 : Nat) (lcs9 : List (Nat × Value)), decode cL_setTogether pc9 = .ok (.ireturn, 1) → narrow .int (.int res.1) = .int res.1 → cells9 ≤ 1 → slots9 ≤ 6 → X p l e ({ frames := 8, cells := 1, slots := 6, locals := 164 } : Room) s m args below meth c 5 cy D B cells9 slots9 (vx_MQ below (QX cy D B (.inl (some (.int res.1))) res.2.1 μ res.2.2) (fun _ _ _ => False) args s 1 6 (aB B)) pc9 lcs9 [.int res.1] res.2.1 μ res.2.2 := fun cells9 slots9 pc9 lcs9 hd hn h1 h2 => x_zretX C hrT hlk hn hd h1 h2
  generalize (vx_MQ below (QX cy D B (.inl (some (.int res.1))) res.2.1 μ res.2.2) (fun _ _ _ => False) args s 1 6 (aB B)) = Q at hret ⊢
  obtain ⟨R, hR9⟩ : ∃ R : Room, R = ({ frames := 8, cells := 1, slots := 6, locals := 164 } : Room) := ⟨_, rfl⟩
  rw [← hR9] at hret ⊢
  unfold fL_setTogether_LOut at h
  show X p l e R s m args below meth c 5 cy D B 0 0 Q 0 [(0, .ref (B + oHB)), (1, .int p2), (2, .int p3), (3, .ref (B + oLOut))] [] σ μ ω
  refine x_aload_n C dL_setTogether_0 rfl 3 rfl ?_
  refine x_iconst C (v := 0) dL_setTogether_1 (by decide) ?_
  refine x_aload_n C dL_setTogether_2 rfl 0 rfl ?_
  refine x_iload_n C dL_setTogether_3 rfl 1 rfl ?_
  refine x_iload_n C dL_setTogether_4 rfl 2 rfl ?_
  obtain ⟨q1, hk1, h⟩ := Option.bind_eq_some_iff.mp h
  refine x_callVX C (As := [.int p2, .int p3]) (rest := [.int (0 : Int32), .ref (B + oLOut)]) (cells2 := 1) (slots2 := 6) (lw_g_mk tw_1054 rfl) (lw_g_mk tw_1055 rfl) (c_HB) (C1 := "HostelBeds") (T := TX5) (N := 12) (ci := 5) rfl (okX5_setTogether l hlf cy D B ek p2 p3 σ μ ω _ hk1) rfl rfl (by rw [hR9]; decide) (lw_g_mk tw_1056 rfl) (lw_g_mk tw_1 rfl) (by decide) rfl (lw_g_mk tw_1053 rfl) rfl (Nat.le_of_ble_eq_true rfl) dL_setTogether_5 (by rw [hR9]; decide) rfl rfl (fun v2 hv3 => ?_) (fun k4 hv5 => ?_)
  · rcases hq6 : q1.1 with x2 | e3
    · rw [hq6, Sum.elim_inl] at h
      rw [hq6] at hv3
      have hv3 : (Sum.inl (some (Value.int x2)) : Option Value ⊕ Nat) = .inl v2 := hv3
      cases hv3
      have hJ7 : ∀ (t4 : Int64) (r9 : Int32 × Mem × Mem), jL_setTogether_LOut_16 q1 ω t4 = some r9 → (∀ (cells9 slots9 pc9 : Nat) (lcs9 : List (Nat × Value)), decode cL_setTogether pc9 = .ok (.ireturn, 1) → narrow .int (.int r9.1) = .int r9.1 → cells9 ≤ 1 → slots9 ≤ 6 → X p l e R s m args below meth c 5 cy D B cells9 slots9 Q pc9 lcs9 [.int r9.1] r9.2.1 μ r9.2.2) → X p l e R s m args below meth c 5 cy D B 1 6 Q 16 [] [.long t4, .int (0 : Int32), .ref (B + oLOut)] q1.2 μ ω := by
        intro t4 res9 h hret
        unfold jL_setTogether_LOut_16 at h
        refine x_last C _ (c_LOut h9) (by decide : inb (0 : Int32) 1) dL_setTogether_16 (s_LOut h9) ?_
        refine x_goto C (tgt := 24) dL_setTogether_17 (by decide) ?_
        refine x_iconst C (v := 0) dL_setTogether_24 (by decide) ?_
        cases h
        exact hret _ _ _ _ dL_setTogether_25 rfl (by decide) (by decide)
      refine x_if_eq C (tgt := 15) dL_setTogether_8 (by decide) (fun hc8 => ?_) (fun hc8 => ?_)
      · rw [if_pos hc8] at h
        refine x_lconst C (v := 0) dL_setTogether_15 (by decide) ?_
        refine x_sub [] rfl ?_
        exact hJ7 (0 : Int64) _ h hret
      · rw [if_neg hc8] at h
        refine x_lconst C (v := 1) dL_setTogether_11 (by decide) ?_
        refine x_goto C (tgt := 16) dL_setTogether_12 (by decide) ?_
        refine x_sub [] rfl ?_
        exact hJ7 (1 : Int64) _ h hret
    · rw [hq6] at hv3; cases hv3
  · rcases hq9 : q1.1 with x2 | e3
    · rw [hq9] at hv5; cases hv5
    · rw [hq9, Sum.elim_inr] at h
      rw [hq9] at hv5
      have hv5 : (Sum.inr e3 : Option Value ⊕ Nat) = .inr k4 := hv5
      cases hv5
      by_cases hc10 : k4 = 3
      · rw [if_pos hc10] at h
        subst hc10
        refine x_catch C htab [] ⟨0, 17, 20, 36⟩ [] rfl (fun z hz => by cases hz) (by decide +kernel) (by decide) (lw_g_mk tw_753 rfl) (by decide +kernel) (fun q11 => ?_)
        refine x_astore C [(4, .ref q11), (0, .ref (B + oHB)), (1, .int p2), (2, .int p3), (3, .ref (B + oLOut))] dL_setTogether_20 (by decide) rfl ?_
        refine x_iconst C (v := 1) dL_setTogether_22 (by decide) ?_
        cases h
        exact hret _ _ _ _ dL_setTogether_23 rfl (by decide) (by decide)
      rw [if_neg hc10] at h
      cases h
def fL_setOver_LOut (p2 : Int32) (σ : Mem) (ω : Mem) : Option (Int32 × Mem × Mem) := ((fX5_setOver p2 σ).bind fun q1 => Sum.elim (fun x2 => (some ((0 : Int32), q1.2, wJ ω 20 0 (0 : Int32).toNatClampNeg x2.toInt64))) (fun e3 => (if e3 = 2 then (some ((1 : Int32), q1.2, ω)) else none)) q1.1)
set_option maxHeartbeats 4000000 in
set_option maxRecDepth 100000 in
theorem okL_setOver_LOut (l : Launch) (hlf : l.stackTraces = false) (cy : Nat → ClassId) (D : va_G) (B : Nat) (ek : EK) (h9 : ¬ cy 9 = 0) (p2 : Int32) (σ μ ω : Mem) (res : Int32 × Mem × Mem) (h : fL_setOver_LOut p2 σ ω = some res) : CTW l cy D B ek yL_setOver cL_setOver 4 (some .int) [(0, 9, 12, 19)] ({ frames := 8, cells := 1, slots := 6, locals := 164 } : Room) 1 6 [.ref (B + oHB), .int p2, .ref (B + oLOut)] σ μ ω (some (.int res.1)) res.2.1 μ res.2.2 := by
  refine met_XW (own := "HostelBedsLaw") (by decide) rfl (Nat.le_of_ble_eq_true rfl) ?_
  intro p e s m args below meth c C hrT hlk htab
  have hret : ∀ (cells9 slots9 pc9 : Nat) (lcs9 : List (Nat × Value)), decode cL_setOver pc9 = .ok (.ireturn, 1) → narrow .int (.int res.1) = .int res.1 → cells9 ≤ 1 → slots9 ≤ 6 → X p l e ({ frames := 8, cells := 1, slots := 6, locals := 164 } : Room) s m args below meth c 4 cy D B cells9 slots9 (vx_MQ below (QX cy D B (.inl (some (.int res.1))) res.2.1 μ res.2.2) (fun _ _ _ => False) args s 1 6 (aB B)) pc9 lcs9 [.int res.1] res.2.1 μ res.2.2 := fun cells9 slots9 pc9 lcs9 hd hn h1 h2 => x_zretX C hrT hlk hn hd h1 h2
  generalize (vx_MQ below (QX cy D B (.inl (some (.int res.1))) res.2.1 μ res.2.2) (fun _ _ _ => False) args s 1 6 (aB B)) = Q at hret ⊢
  obtain ⟨R, hR9⟩ : ∃ R : Room, R = ({ frames := 8, cells := 1, slots := 6, locals := 164 } : Room) := ⟨_, rfl⟩
  rw [← hR9] at hret ⊢
  unfold fL_setOver_LOut at h
  show X p l e R s m args below meth c 4 cy D B 0 0 Q 0 [(0, .ref (B + oHB)), (1, .int p2), (2, .ref (B + oLOut))] [] σ μ ω
  refine x_aload_n C dL_setOver_0 rfl 2 rfl ?_
  refine x_iconst C (v := 0) dL_setOver_1 (by decide) ?_
  refine x_aload_n C dL_setOver_2 rfl 0 rfl ?_
  refine x_iload_n C dL_setOver_3 rfl 1 rfl ?_
  obtain ⟨q1, hk1, h⟩ := Option.bind_eq_some_iff.mp h
  refine x_callVX C (As := [.int p2]) (rest := [.int (0 : Int32), .ref (B + oLOut)]) (cells2 := 1) (slots2 := 6) (lw_g_mk tw_1061 rfl) (lw_g_mk tw_1062 rfl) (c_HB) (C1 := "HostelBeds") (T := TX5) (N := 12) (ci := 5) rfl (okX5_setOver l hlf cy D B ek p2 σ μ ω _ hk1) rfl rfl (by rw [hR9]; decide) (lw_g_mk tw_1063 rfl) (lw_g_mk tw_1 rfl) (by decide) rfl (lw_g_mk tw_1060 rfl) rfl (Nat.le_of_ble_eq_true rfl) dL_setOver_4 (by rw [hR9]; decide) rfl rfl (fun v2 hv3 => ?_) (fun k4 hv5 => ?_)
  · rcases hq6 : q1.1 with x2 | e3
    · rw [hq6, Sum.elim_inl] at h
      rw [hq6] at hv3
      have hv3 : (Sum.inl (some (Value.int x2)) : Option Value ⊕ Nat) = .inl v2 := hv3
      cases hv3
      refine x_i2l C dL_setOver_7 ?_
      refine x_last C _ (c_LOut h9) (by decide : inb (0 : Int32) 1) dL_setOver_8 (s_LOut h9) ?_
      refine x_goto C (tgt := 15) dL_setOver_9 (by decide) ?_
      refine x_iconst C (v := 0) dL_setOver_15 (by decide) ?_
      cases h
      exact hret _ _ _ _ dL_setOver_16 rfl (by decide) (by decide)
    · rw [hq6] at hv3; cases hv3
  · rcases hq7 : q1.1 with x2 | e3
    · rw [hq7] at hv5; cases hv5
    · rw [hq7, Sum.elim_inr] at h
      rw [hq7] at hv5
      have hv5 : (Sum.inr e3 : Option Value ⊕ Nat) = .inr k4 := hv5
      cases hv5
      by_cases hc8 : k4 = 2
      · rw [if_pos hc8] at h
        subst hc8
        refine x_catch C htab [] ⟨0, 9, 12, 19⟩ [] rfl (fun z hz => by cases hz) (by decide +kernel) (by decide) (lw_g_mk tw_552 rfl) (by decide +kernel) (fun q9 => ?_)
        refine x_astore_n C [(3, .ref q9), (0, .ref (B + oHB)), (1, .int p2), (2, .ref (B + oLOut))] dL_setOver_12 rfl (by decide) rfl ?_
        refine x_iconst C (v := 1) dL_setOver_13 (by decide) ?_
        cases h
        exact hret _ _ _ _ dL_setOver_14 rfl (by decide) (by decide)
      rw [if_neg hc8] at h
      cases h
def fL_setWalk_LOut (p2 : Int32) (σ : Mem) (ω : Mem) : Option (Int32 × Mem × Mem) := ((fX5_setWalk p2 σ).bind fun q1 => Sum.elim (fun x2 => (some ((0 : Int32), q1.2, wJ ω 20 0 (0 : Int32).toNatClampNeg x2.toInt64))) (fun e3 => (if e3 = 2 then (some ((1 : Int32), q1.2, ω)) else none)) q1.1)
set_option maxHeartbeats 4000000 in
set_option maxRecDepth 100000 in
theorem okL_setWalk_LOut (l : Launch) (hlf : l.stackTraces = false) (cy : Nat → ClassId) (D : va_G) (B : Nat) (ek : EK) (h9 : ¬ cy 9 = 0) (p2 : Int32) (σ μ ω : Mem) (res : Int32 × Mem × Mem) (h : fL_setWalk_LOut p2 σ ω = some res) : CTW l cy D B ek yL_setWalk cL_setWalk 4 (some .int) [(0, 9, 12, 19)] ({ frames := 8, cells := 1, slots := 6, locals := 164 } : Room) 1 6 [.ref (B + oHB), .int p2, .ref (B + oLOut)] σ μ ω (some (.int res.1)) res.2.1 μ res.2.2 := by
  refine met_XW (own := "HostelBedsLaw") (by decide) rfl (Nat.le_of_ble_eq_true rfl) ?_
  intro p e s m args below meth c C hrT hlk htab
  have hret : ∀ (cells9 slots9 pc9 : Nat) (lcs9 : List (Nat × Value)), decode cL_setWalk pc9 = .ok (.ireturn, 1) → narrow .int (.int res.1) = .int res.1 → cells9 ≤ 1 → slots9 ≤ 6 → X p l e ({ frames := 8, cells := 1, slots := 6, locals := 164 } : Room) s m args below meth c 4 cy D B cells9 slots9 (vx_MQ below (QX cy D B (.inl (some (.int res.1))) res.2.1 μ res.2.2) (fun _ _ _ => False) args s 1 6 (aB B)) pc9 lcs9 [.int res.1] res.2.1 μ res.2.2 := fun cells9 slots9 pc9 lcs9 hd hn h1 h2 => x_zretX C hrT hlk hn hd h1 h2
  generalize (vx_MQ below (QX cy D B (.inl (some (.int res.1))) res.2.1 μ res.2.2) (fun _ _ _ => False) args s 1 6 (aB B)) = Q at hret ⊢
  obtain ⟨R, hR9⟩ : ∃ R : Room, R = ({ frames := 8, cells := 1, slots := 6, locals := 164 } : Room) := ⟨_, rfl⟩
  rw [← hR9] at hret ⊢
  unfold fL_setWalk_LOut at h
  show X p l e R s m args below meth c 4 cy D B 0 0 Q 0 [(0, .ref (B + oHB)), (1, .int p2), (2, .ref (B + oLOut))] [] σ μ ω
  refine x_aload_n C dL_setWalk_0 rfl 2 rfl ?_
  refine x_iconst C (v := 0) dL_setWalk_1 (by decide) ?_
  refine x_aload_n C dL_setWalk_2 rfl 0 rfl ?_
  refine x_iload_n C dL_setWalk_3 rfl 1 rfl ?_
  obtain ⟨q1, hk1, h⟩ := Option.bind_eq_some_iff.mp h
  refine x_callVX C (As := [.int p2]) (rest := [.int (0 : Int32), .ref (B + oLOut)]) (cells2 := 1) (slots2 := 6) (lw_g_mk tw_1068 rfl) (lw_g_mk tw_1069 rfl) (c_HB) (C1 := "HostelBeds") (T := TX5) (N := 12) (ci := 5) rfl (okX5_setWalk l hlf cy D B ek p2 σ μ ω _ hk1) rfl rfl (by rw [hR9]; decide) (lw_g_mk tw_1070 rfl) (lw_g_mk tw_1 rfl) (by decide) rfl (lw_g_mk tw_1067 rfl) rfl (Nat.le_of_ble_eq_true rfl) dL_setWalk_4 (by rw [hR9]; decide) rfl rfl (fun v2 hv3 => ?_) (fun k4 hv5 => ?_)
  · rcases hq6 : q1.1 with x2 | e3
    · rw [hq6, Sum.elim_inl] at h
      rw [hq6] at hv3
      have hv3 : (Sum.inl (some (Value.int x2)) : Option Value ⊕ Nat) = .inl v2 := hv3
      cases hv3
      refine x_i2l C dL_setWalk_7 ?_
      refine x_last C _ (c_LOut h9) (by decide : inb (0 : Int32) 1) dL_setWalk_8 (s_LOut h9) ?_
      refine x_goto C (tgt := 15) dL_setWalk_9 (by decide) ?_
      refine x_iconst C (v := 0) dL_setWalk_15 (by decide) ?_
      cases h
      exact hret _ _ _ _ dL_setWalk_16 rfl (by decide) (by decide)
    · rw [hq6] at hv3; cases hv3
  · rcases hq7 : q1.1 with x2 | e3
    · rw [hq7] at hv5; cases hv5
    · rw [hq7, Sum.elim_inr] at h
      rw [hq7] at hv5
      have hv5 : (Sum.inr e3 : Option Value ⊕ Nat) = .inr k4 := hv5
      cases hv5
      by_cases hc8 : k4 = 2
      · rw [if_pos hc8] at h
        subst hc8
        refine x_catch C htab [] ⟨0, 9, 12, 19⟩ [] rfl (fun z hz => by cases hz) (by decide +kernel) (by decide) (lw_g_mk tw_552 rfl) (by decide +kernel) (fun q9 => ?_)
        refine x_astore_n C [(3, .ref q9), (0, .ref (B + oHB)), (1, .int p2), (2, .ref (B + oLOut))] dL_setWalk_12 rfl (by decide) rfl ?_
        refine x_iconst C (v := 1) dL_setWalk_13 (by decide) ?_
        cases h
        exact hret _ _ _ _ dL_setWalk_14 rfl (by decide) (by decide)
      rw [if_neg hc8] at h
      cases h
def fL_setPrice_LOut (p2 : Int32) (p3 : Int32) (σ : Mem) (ω : Mem) : Option (Int32 × Mem × Mem) := ((fX5_setPrice p2 p3 σ).bind fun q1 => Sum.elim (fun x2 => (some ((0 : Int32), q1.2, wJ ω 20 0 (0 : Int32).toNatClampNeg x2.toInt64))) (fun e3 => (if e3 = 3 then (some ((1 : Int32), q1.2, ω)) else (if e3 = 2 then (some ((2 : Int32), q1.2, ω)) else none))) q1.1)
set_option maxHeartbeats 4000000 in
set_option maxRecDepth 100000 in
theorem okL_setPrice_LOut (l : Launch) (hlf : l.stackTraces = false) (cy : Nat → ClassId) (D : va_G) (B : Nat) (ek : EK) (h9 : ¬ cy 9 = 0) (p2 : Int32) (p3 : Int32) (σ μ ω : Mem) (res : Int32 × Mem × Mem) (h : fL_setPrice_LOut p2 p3 σ ω = some res) : CTW l cy D B ek yL_setPrice cL_setPrice 5 (some .int) [(0, 10, 13, 36), (0, 10, 17, 19)] ({ frames := 8, cells := 2, slots := 12, locals := 165 } : Room) 2 12 [.ref (B + oHB), .int p2, .int p3, .ref (B + oLOut)] σ μ ω (some (.int res.1)) res.2.1 μ res.2.2 := by
  refine met_XW (own := "HostelBedsLaw") (by decide) rfl (Nat.le_of_ble_eq_true rfl) ?_
  intro p e s m args below meth c C hrT hlk htab
  have hret : ∀ (cells9 slots9 pc9 : Nat) (lcs9 : List (Nat × Value)), decode cL_setPrice pc9 = .ok (.ireturn, 1) → narrow .int (.int res.1) = .int res.1 → cells9 ≤ 2 → slots9 ≤ 12 → X p l e ({ frames := 8, cells := 2, slots := 12, locals := 165 } : Room) s m args below meth c 5 cy D B cells9 slots9 (vx_MQ below (QX cy D B (.inl (some (.int res.1))) res.2.1 μ res.2.2) (fun _ _ _ => False) args s 2 12 (aB B)) pc9 lcs9 [.int res.1] res.2.1 μ res.2.2 := fun cells9 slots9 pc9 lcs9 hd hn h1 h2 => x_zretX C hrT hlk hn hd h1 h2
  generalize (vx_MQ below (QX cy D B (.inl (some (.int res.1))) res.2.1 μ res.2.2) (fun _ _ _ => False) args s 2 12 (aB B)) = Q at hret ⊢
  obtain ⟨R, hR9⟩ : ∃ R : Room, R = ({ frames := 8, cells := 2, slots := 12, locals := 165 } : Room) := ⟨_, rfl⟩
  rw [← hR9] at hret ⊢
  unfold fL_setPrice_LOut at h
  show X p l e R s m args below meth c 5 cy D B 0 0 Q 0 [(0, .ref (B + oHB)), (1, .int p2), (2, .int p3), (3, .ref (B + oLOut))] [] σ μ ω
  refine x_aload_n C dL_setPrice_0 rfl 3 rfl ?_
  refine x_iconst C (v := 0) dL_setPrice_1 (by decide) ?_
  refine x_aload_n C dL_setPrice_2 rfl 0 rfl ?_
  refine x_iload_n C dL_setPrice_3 rfl 1 rfl ?_
  refine x_iload_n C dL_setPrice_4 rfl 2 rfl ?_
  obtain ⟨q1, hk1, h⟩ := Option.bind_eq_some_iff.mp h
  refine x_callVX C (As := [.int p2, .int p3]) (rest := [.int (0 : Int32), .ref (B + oLOut)]) (cells2 := 2) (slots2 := 12) (lw_g_mk tw_1075 rfl) (lw_g_mk tw_1076 rfl) (c_HB) (C1 := "HostelBeds") (T := TX5) (N := 12) (ci := 5) rfl (okX5_setPrice l hlf cy D B ek p2 p3 σ μ ω _ hk1) rfl rfl (by rw [hR9]; decide) (lw_g_mk tw_1077 rfl) (lw_g_mk tw_1 rfl) (by decide) rfl (lw_g_mk tw_1074 rfl) rfl (Nat.le_of_ble_eq_true rfl) dL_setPrice_5 (by rw [hR9]; decide) rfl rfl (fun v2 hv3 => ?_) (fun k4 hv5 => ?_)
  · rcases hq6 : q1.1 with x2 | e3
    · rw [hq6, Sum.elim_inl] at h
      rw [hq6] at hv3
      have hv3 : (Sum.inl (some (Value.int x2)) : Option Value ⊕ Nat) = .inl v2 := hv3
      cases hv3
      refine x_i2l C dL_setPrice_8 ?_
      refine x_last C _ (c_LOut h9) (by decide : inb (0 : Int32) 1) dL_setPrice_9 (s_LOut h9) ?_
      refine x_goto C (tgt := 21) dL_setPrice_10 (by decide) ?_
      refine x_iconst C (v := 0) dL_setPrice_21 (by decide) ?_
      cases h
      exact hret _ _ _ _ dL_setPrice_22 rfl (by decide) (by decide)
    · rw [hq6] at hv3; cases hv3
  · rcases hq7 : q1.1 with x2 | e3
    · rw [hq7] at hv5; cases hv5
    · rw [hq7, Sum.elim_inr] at h
      rw [hq7] at hv5
      have hv5 : (Sum.inr e3 : Option Value ⊕ Nat) = .inr k4 := hv5
      cases hv5
      by_cases hc8 : k4 = 3
      · rw [if_pos hc8] at h
        subst hc8
        refine x_catch C htab [] ⟨0, 10, 13, 36⟩ [⟨0, 10, 17, 19⟩] rfl (fun z hz => by cases hz) (by decide +kernel) (by decide) (lw_g_mk tw_753 rfl) (by decide +kernel) (fun q9 => ?_)
        refine x_astore C [(4, .ref q9), (0, .ref (B + oHB)), (1, .int p2), (2, .int p3), (3, .ref (B + oLOut))] dL_setPrice_13 (by decide) rfl ?_
        refine x_iconst C (v := 1) dL_setPrice_15 (by decide) ?_
        cases h
        exact hret _ _ _ _ dL_setPrice_16 rfl (by decide) (by decide)
      rw [if_neg hc8] at h
      by_cases hc10 : k4 = 2
      · rw [if_pos hc10] at h
        subst hc10
        refine x_catch C htab [⟨0, 10, 13, 36⟩] ⟨0, 10, 17, 19⟩ [] rfl (fun z hz => by rcases List.mem_singleton.mp hz with rfl; exact ⟨by decide, "java/lang/IndexOutOfBoundsException", lw_g_mk tw_753 rfl, by decide +kernel⟩) (by decide +kernel) (by decide) (lw_g_mk tw_552 rfl) (by decide +kernel) (fun q11 => ?_)
        refine x_astore C [(4, .ref q11), (0, .ref (B + oHB)), (1, .int p2), (2, .int p3), (3, .ref (B + oLOut))] dL_setPrice_17 (by decide) rfl ?_
        refine x_iconst C (v := 2) dL_setPrice_19 (by decide) ?_
        cases h
        exact hret _ _ _ _ dL_setPrice_20 rfl (by decide) (by decide)
      rw [if_neg hc10] at h
      cases h
def fL_undo_LOut (σ : Mem) (ω : Mem) : Option (Int32 × Mem × Mem) := ((fX5_undo σ).bind fun q1 => Sum.elim (fun x2 => (some ((0 : Int32), q1.2, wJ ω 20 0 (0 : Int32).toNatClampNeg x2.toInt64))) (fun e3 => (if e3 = 1 then (some ((1 : Int32), q1.2, ω)) else none)) q1.1)
set_option maxHeartbeats 4000000 in
set_option maxRecDepth 100000 in
theorem okL_undo_LOut (l : Launch) (hlf : l.stackTraces = false) (cy : Nat → ClassId) (D : va_G) (B : Nat) (ek : EK) (h9 : ¬ cy 9 = 0) (σ μ ω : Mem) (res : Int32 × Mem × Mem) (h : fL_undo_LOut σ ω = some res) : CTW l cy D B ek yL_undo cL_undo 3 (some .int) [(0, 8, 11, 13)] ({ frames := 7, cells := 1, slots := 6, locals := 142 } : Room) 1 6 [.ref (B + oHB), .ref (B + oLOut)] σ μ ω (some (.int res.1)) res.2.1 μ res.2.2 := by
  refine met_XW (own := "HostelBedsLaw") (by decide) rfl (Nat.le_of_ble_eq_true rfl) ?_
  intro p e s m args below meth c C hrT hlk htab
  have hret : ∀ (cells9 slots9 pc9 : Nat) (lcs9 : List (Nat × Value)), decode cL_undo pc9 = .ok (.ireturn, 1) → narrow .int (.int res.1) = .int res.1 → cells9 ≤ 1 → slots9 ≤ 6 → X p l e ({ frames := 7, cells := 1, slots := 6, locals := 142 } : Room) s m args below meth c 3 cy D B cells9 slots9 (vx_MQ below (QX cy D B (.inl (some (.int res.1))) res.2.1 μ res.2.2) (fun _ _ _ => False) args s 1 6 (aB B)) pc9 lcs9 [.int res.1] res.2.1 μ res.2.2 := fun cells9 slots9 pc9 lcs9 hd hn h1 h2 => x_zretX C hrT hlk hn hd h1 h2
  generalize (vx_MQ below (QX cy D B (.inl (some (.int res.1))) res.2.1 μ res.2.2) (fun _ _ _ => False) args s 1 6 (aB B)) = Q at hret ⊢
  obtain ⟨R, hR9⟩ : ∃ R : Room, R = ({ frames := 7, cells := 1, slots := 6, locals := 142 } : Room) := ⟨_, rfl⟩
  rw [← hR9] at hret ⊢
  unfold fL_undo_LOut at h
  show X p l e R s m args below meth c 3 cy D B 0 0 Q 0 [(0, .ref (B + oHB)), (1, .ref (B + oLOut))] [] σ μ ω
  refine x_aload_n C dL_undo_0 rfl 1 rfl ?_
  refine x_iconst C (v := 0) dL_undo_1 (by decide) ?_
  refine x_aload_n C dL_undo_2 rfl 0 rfl ?_
  obtain ⟨q1, hk1, h⟩ := Option.bind_eq_some_iff.mp h
  refine x_callVX C (As := []) (rest := [.int (0 : Int32), .ref (B + oLOut)]) (cells2 := 1) (slots2 := 6) (lw_g_mk tw_1082 rfl) (lw_g_mk tw_1083 rfl) (c_HB) (C1 := "HostelBeds") (T := TX5) (N := 12) (ci := 5) rfl (okX5_undo l hlf cy D B ek σ μ ω _ hk1) rfl rfl (by rw [hR9]; decide) (lw_g_mk tw_1084 rfl) (lw_g_mk tw_1 rfl) (by decide) rfl (lw_g_mk tw_1081 rfl) rfl (Nat.le_of_ble_eq_true rfl) dL_undo_3 (by rw [hR9]; decide) rfl rfl (fun v2 hv3 => ?_) (fun k4 hv5 => ?_)
  · rcases hq6 : q1.1 with x2 | e3
    · rw [hq6, Sum.elim_inl] at h
      rw [hq6] at hv3
      have hv3 : (Sum.inl (some (Value.int x2)) : Option Value ⊕ Nat) = .inl v2 := hv3
      cases hv3
      refine x_i2l C dL_undo_6 ?_
      refine x_last C _ (c_LOut h9) (by decide : inb (0 : Int32) 1) dL_undo_7 (s_LOut h9) ?_
      refine x_goto C (tgt := 14) dL_undo_8 (by decide) ?_
      refine x_iconst C (v := 0) dL_undo_14 (by decide) ?_
      cases h
      exact hret _ _ _ _ dL_undo_15 rfl (by decide) (by decide)
    · rw [hq6] at hv3; cases hv3
  · rcases hq7 : q1.1 with x2 | e3
    · rw [hq7] at hv5; cases hv5
    · rw [hq7, Sum.elim_inr] at h
      rw [hq7] at hv5
      have hv5 : (Sum.inr e3 : Option Value ⊕ Nat) = .inr k4 := hv5
      cases hv5
      by_cases hc8 : k4 = 1
      · rw [if_pos hc8] at h
        subst hc8
        refine x_catch C htab [] ⟨0, 8, 11, 13⟩ [] rfl (fun z hz => by cases hz) (by decide +kernel) (by decide) (lw_g_mk tw_472 rfl) (by decide +kernel) (fun q9 => ?_)
        refine x_astore_n C [(2, .ref q9), (0, .ref (B + oHB)), (1, .ref (B + oLOut))] dL_undo_11 rfl (by decide) rfl ?_
        refine x_iconst C (v := 1) dL_undo_12 (by decide) ?_
        cases h
        exact hret _ _ _ _ dL_undo_13 rfl (by decide) (by decide)
      rw [if_neg hc8] at h
      cases h
def fL_format_LOut (p2 : Int32) (σ : Mem) (ω : Mem) : Option (Int32 × Mem × Mem) := ((fX5_format p2 σ).bind fun q1 => Sum.elim (fun x2 => (some ((0 : Int32), q1.2, wJ ω 20 0 (0 : Int32).toNatClampNeg x2.toInt64))) (fun e3 => (if e3 = 3 then (some ((1 : Int32), q1.2, ω)) else none)) q1.1)
set_option maxHeartbeats 4000000 in
set_option maxRecDepth 100000 in
theorem okL_format_LOut (l : Launch) (hlf : l.stackTraces = false) (cy : Nat → ClassId) (D : va_G) (B : Nat) (ek : EK) (h9 : ¬ cy 9 = 0) (p2 : Int32) (σ μ ω : Mem) (res : Int32 × Mem × Mem) (h : fL_format_LOut p2 σ ω = some res) : CTW l cy D B ek yL_format cL_format 4 (some .int) [(0, 9, 12, 36)] ({ frames := 8, cells := 1, slots := 6, locals := 162 } : Room) 1 6 [.ref (B + oHB), .int p2, .ref (B + oLOut)] σ μ ω (some (.int res.1)) res.2.1 μ res.2.2 := by
  refine met_XW (own := "HostelBedsLaw") (by decide) rfl (Nat.le_of_ble_eq_true rfl) ?_
  intro p e s m args below meth c C hrT hlk htab
  have hret : ∀ (cells9 slots9 pc9 : Nat) (lcs9 : List (Nat × Value)), decode cL_format pc9 = .ok (.ireturn, 1) → narrow .int (.int res.1) = .int res.1 → cells9 ≤ 1 → slots9 ≤ 6 → X p l e ({ frames := 8, cells := 1, slots := 6, locals := 162 } : Room) s m args below meth c 4 cy D B cells9 slots9 (vx_MQ below (QX cy D B (.inl (some (.int res.1))) res.2.1 μ res.2.2) (fun _ _ _ => False) args s 1 6 (aB B)) pc9 lcs9 [.int res.1] res.2.1 μ res.2.2 := fun cells9 slots9 pc9 lcs9 hd hn h1 h2 => x_zretX C hrT hlk hn hd h1 h2
  generalize (vx_MQ below (QX cy D B (.inl (some (.int res.1))) res.2.1 μ res.2.2) (fun _ _ _ => False) args s 1 6 (aB B)) = Q at hret ⊢
  obtain ⟨R, hR9⟩ : ∃ R : Room, R = ({ frames := 8, cells := 1, slots := 6, locals := 162 } : Room) := ⟨_, rfl⟩
  rw [← hR9] at hret ⊢
  unfold fL_format_LOut at h
  show X p l e R s m args below meth c 4 cy D B 0 0 Q 0 [(0, .ref (B + oHB)), (1, .int p2), (2, .ref (B + oLOut))] [] σ μ ω
  refine x_aload_n C dL_format_0 rfl 2 rfl ?_
  refine x_iconst C (v := 0) dL_format_1 (by decide) ?_
  refine x_aload_n C dL_format_2 rfl 0 rfl ?_
  refine x_iload_n C dL_format_3 rfl 1 rfl ?_
  obtain ⟨q1, hk1, h⟩ := Option.bind_eq_some_iff.mp h
  refine x_callVX C (As := [.int p2]) (rest := [.int (0 : Int32), .ref (B + oLOut)]) (cells2 := 1) (slots2 := 6) (lw_g_mk tw_1090 rfl) (lw_g_mk tw_1091 rfl) (c_HB) (C1 := "HostelBeds") (T := TX5) (N := 12) (ci := 5) rfl (okX5_format l hlf cy D B ek p2 σ μ ω _ hk1) rfl rfl (by rw [hR9]; decide) (lw_g_mk tw_1092 rfl) (lw_g_mk tw_1 rfl) (by decide) rfl (lw_g_mk tw_1089 rfl) rfl (Nat.le_of_ble_eq_true rfl) dL_format_4 (by rw [hR9]; decide) rfl rfl (fun v2 hv3 => ?_) (fun k4 hv5 => ?_)
  · rcases hq6 : q1.1 with x2 | e3
    · rw [hq6, Sum.elim_inl] at h
      rw [hq6] at hv3
      have hv3 : (Sum.inl (some (Value.int x2)) : Option Value ⊕ Nat) = .inl v2 := hv3
      cases hv3
      refine x_i2l C dL_format_7 ?_
      refine x_last C _ (c_LOut h9) (by decide : inb (0 : Int32) 1) dL_format_8 (s_LOut h9) ?_
      refine x_goto C (tgt := 15) dL_format_9 (by decide) ?_
      refine x_iconst C (v := 0) dL_format_15 (by decide) ?_
      cases h
      exact hret _ _ _ _ dL_format_16 rfl (by decide) (by decide)
    · rw [hq6] at hv3; cases hv3
  · rcases hq7 : q1.1 with x2 | e3
    · rw [hq7] at hv5; cases hv5
    · rw [hq7, Sum.elim_inr] at h
      rw [hq7] at hv5
      have hv5 : (Sum.inr e3 : Option Value ⊕ Nat) = .inr k4 := hv5
      cases hv5
      by_cases hc8 : k4 = 3
      · rw [if_pos hc8] at h
        subst hc8
        refine x_catch C htab [] ⟨0, 9, 12, 36⟩ [] rfl (fun z hz => by cases hz) (by decide +kernel) (by decide) (lw_g_mk tw_753 rfl) (by decide +kernel) (fun q9 => ?_)
        refine x_astore_n C [(3, .ref q9), (0, .ref (B + oHB)), (1, .int p2), (2, .ref (B + oLOut))] dL_format_12 rfl (by decide) rfl ?_
        refine x_iconst C (v := 1) dL_format_13 (by decide) ?_
        cases h
        exact hret _ _ _ _ dL_format_14 rfl (by decide) (by decide)
      rw [if_neg hc8] at h
      cases h
def fL_formattedCharacter_LOut (p2 : Int32) (σ : Mem) (ω : Mem) : Option (Int32 × Mem) := ((fX5_formattedCharacter p2 σ).bind fun q1 => Sum.elim (fun x2 => (some ((0 : Int32), wJ ω 20 0 (0 : Int32).toNatClampNeg x2.toInt64))) (fun e3 => (if e3 = 3 then (some ((1 : Int32), ω)) else none)) q1)
set_option maxHeartbeats 4000000 in
set_option maxRecDepth 100000 in
theorem okL_formattedCharacter_LOut (l : Launch) (hlf : l.stackTraces = false) (cy : Nat → ClassId) (D : va_G) (B : Nat) (ek : EK) (h9 : ¬ cy 9 = 0) (p2 : Int32) (σ μ ω : Mem) (res : Int32 × Mem) (h : fL_formattedCharacter_LOut p2 σ ω = some res) : CTW l cy D B ek yL_formattedCharacter cL_formattedCharacter 4 (some .int) [(0, 9, 12, 36)] ({ frames := 7, cells := 1, slots := 6, locals := 141 } : Room) 1 6 [.ref (B + oHB), .int p2, .ref (B + oLOut)] σ μ ω (some (.int res.1)) σ μ res.2 := by
  refine met_XW (own := "HostelBedsLaw") (by decide) rfl (Nat.le_of_ble_eq_true rfl) ?_
  intro p e s m args below meth c C hrT hlk htab
  have hret : ∀ (cells9 slots9 pc9 : Nat) (lcs9 : List (Nat × Value)), decode cL_formattedCharacter pc9 = .ok (.ireturn, 1) → narrow .int (.int res.1) = .int res.1 → cells9 ≤ 1 → slots9 ≤ 6 → X p l e ({ frames := 7, cells := 1, slots := 6, locals := 141 } : Room) s m args below meth c 4 cy D B cells9 slots9 (vx_MQ below (QX cy D B (.inl (some (.int res.1))) σ μ res.2) (fun _ _ _ => False) args s 1 6 (aB B)) pc9 lcs9 [.int res.1] σ μ res.2 := fun cells9 slots9 pc9 lcs9 hd hn h1 h2 => x_zretX C hrT hlk hn hd h1 h2
  generalize (vx_MQ below (QX cy D B (.inl (some (.int res.1))) σ μ res.2) (fun _ _ _ => False) args s 1 6 (aB B)) = Q at hret ⊢
  obtain ⟨R, hR9⟩ : ∃ R : Room, R = ({ frames := 7, cells := 1, slots := 6, locals := 141 } : Room) := ⟨_, rfl⟩
  rw [← hR9] at hret ⊢
  unfold fL_formattedCharacter_LOut at h
  show X p l e R s m args below meth c 4 cy D B 0 0 Q 0 [(0, .ref (B + oHB)), (1, .int p2), (2, .ref (B + oLOut))] [] σ μ ω
  refine x_aload_n C dL_formattedCharacter_0 rfl 2 rfl ?_
  refine x_iconst C (v := 0) dL_formattedCharacter_1 (by decide) ?_
  refine x_aload_n C dL_formattedCharacter_2 rfl 0 rfl ?_
  refine x_iload_n C dL_formattedCharacter_3 rfl 1 rfl ?_
  obtain ⟨q1, hk1, h⟩ := Option.bind_eq_some_iff.mp h
  refine x_callVX C (As := [.int p2]) (rest := [.int (0 : Int32), .ref (B + oLOut)]) (cells2 := 1) (slots2 := 6) (lw_g_mk tw_1109 rfl) (lw_g_mk tw_1110 rfl) (c_HB) (C1 := "HostelBeds") (T := TX5) (N := 12) (ci := 5) rfl (okX5_formattedCharacter l hlf cy D B ek p2 σ μ ω _ hk1) rfl rfl (by rw [hR9]; decide) (lw_g_mk tw_1111 rfl) (lw_g_mk tw_1 rfl) (by decide) rfl (lw_g_mk tw_1108 rfl) rfl (Nat.le_of_ble_eq_true rfl) dL_formattedCharacter_4 (by rw [hR9]; decide) rfl rfl (fun v2 hv3 => ?_) (fun k4 hv5 => ?_)
  · rcases q1 with x2 | e3
    · rw [Sum.elim_inl] at h
      have hv3 : (Sum.inl (some (Value.int x2)) : Option Value ⊕ Nat) = .inl v2 := hv3
      cases hv3
      refine x_i2l C dL_formattedCharacter_7 ?_
      refine x_last C _ (c_LOut h9) (by decide : inb (0 : Int32) 1) dL_formattedCharacter_8 (s_LOut h9) ?_
      refine x_goto C (tgt := 15) dL_formattedCharacter_9 (by decide) ?_
      refine x_iconst C (v := 0) dL_formattedCharacter_15 (by decide) ?_
      cases h
      exact hret _ _ _ _ dL_formattedCharacter_16 rfl (by decide) (by decide)
    · cases hv3
  · rcases q1 with x2 | e3
    · cases hv5
    · rw [Sum.elim_inr] at h
      have hv5 : (Sum.inr e3 : Option Value ⊕ Nat) = .inr k4 := hv5
      cases hv5
      by_cases hc8 : k4 = 3
      · rw [if_pos hc8] at h
        subst hc8
        refine x_catch C htab [] ⟨0, 9, 12, 36⟩ [] rfl (fun z hz => by cases hz) (by decide +kernel) (by decide) (lw_g_mk tw_753 rfl) (by decide +kernel) (fun q9 => ?_)
        refine x_astore_n C [(3, .ref q9), (0, .ref (B + oHB)), (1, .int p2), (2, .ref (B + oLOut))] dL_formattedCharacter_12 rfl (by decide) rfl ?_
        refine x_iconst C (v := 1) dL_formattedCharacter_13 (by decide) ?_
        cases h
        exact hret _ _ _ _ dL_formattedCharacter_14 rfl (by decide) (by decide)
      rw [if_neg hc8] at h
      cases h
