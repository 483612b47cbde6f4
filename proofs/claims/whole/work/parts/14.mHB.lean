def fX5_append (p1 : Int32) (p2 : Int32) (p3 : Int32) (p4 : Int32) (p5 : Int32) (σ : Mem) : Option ((Int32 ⊕ Nat) × Mem) := (if ((rI σ 7 0 0) + (20 : Int32)) ≤ (700 : Int32) then ((fX2_put p1 σ).bind fun q1 => ((fX2_put p2 q1).bind fun q2 => ((fX2_put p3 q2).bind fun q3 => ((fX2_put p4 q3).bind fun q4 => ((fX2_put p5 q4).bind fun q5 => (some (.inl (rI q5 7 0 0), q5))))))) else (some (.inr 1, σ)))
set_option maxHeartbeats 4000000 in
set_option maxRecDepth 100000 in
theorem okX5_append (l : Launch) (hlf : l.stackTraces = false) (cy : Nat → ClassId) (D : va_G) (B : Nat) (ek : EK) (p1 : Int32) (p2 : Int32) (p3 : Int32) (p4 : Int32) (p5 : Int32) (σ μ ω : Mem) (res : (Int32 ⊕ Nat) × Mem) (h : fX5_append p1 p2 p3 p4 p5 σ = some res) : CTX l cy D B ek yX5_append cX5_append 6 (some .int) ({ frames := 6, cells := 1, slots := 6, locals := 120 } : Room) 1 6 [.ref (B + oHB), .int p1, .int p2, .int p3, .int p4, .int p5] σ μ ω (Sum.map (fun x => some (Value.int x)) id res.1) res.2 μ ω := by
  refine met_XX (own := "HostelBeds") (by decide) rfl (Nat.le_of_ble_eq_true rfl) ?_
  intro p e s m args below meth c C hrT hlk htab
  have hret : ∀ (x9 : Int32), res.1 = .inl x9 → ∀ (cells9 slots9 pc9 : Nat) (lcs9 : List (Nat × Value)), decode cX5_append pc9 = .ok (.ireturn, 1) → narrow .int (.int x9) = .int x9 → cells9 ≤ 1 → slots9 ≤ 6 → X p l e ({ frames := 6, cells := 1, slots := 6, locals := 120 } : Room) s m args below meth c 6 cy D B cells9 slots9 (vx_MQ below (QX cy D B (Sum.map (fun x => some (Value.int x)) id res.1) res.2 μ ω) (XCX cy D B (Sum.map (fun x => some (Value.int x)) id res.1) res.2 μ ω) args s 1 6 (aB B)) pc9 lcs9 [.int x9] res.2 μ ω := fun x9 hx9 cells9 slots9 pc9 lcs9 hd hn h1 h2 => by rw [hx9]; exact x_zretX C hrT hlk hn hd h1 h2
  have hthr : ∀ (k9 : Nat), res.1 = .inr k9 → ∀ (cells9 slots9 pc9 : Nat) (lcs9 : List (Nat × Value)), (ThrowS "HostelBeds" cX5_append pc9 k9 ∨ ThrowSW "HostelBeds" cX5_append pc9 k9 ∨ ThrowN "HostelBeds" cX5_append pc9 k9) → cells9 + 1 ≤ 1 → slots9 + 6 ≤ 6 → X p l e ({ frames := 6, cells := 1, slots := 6, locals := 120 } : Room) s m args below meth c 6 cy D B cells9 slots9 (vx_MQ below (QX cy D B (Sum.map (fun x => some (Value.int x)) id res.1) res.2 μ ω) (XCX cy D B (Sum.map (fun x => some (Value.int x)) id res.1) res.2 μ ω) args s 1 6 (aB B)) pc9 lcs9 [] res.2 μ ω := fun k9 hx9 cells9 slots9 pc9 lcs9 ht h1 h2 => by
    rw [hx9]
    rcases ht with ht | ht | ht
    · exact x_throwS C hlf ht htab (Nat.le_of_ble_eq_true rfl) (Nat.le_of_ble_eq_true rfl) h1 h2 hlk h1 h2
    · exact x_throwSW C hlf ht htab (Nat.le_of_ble_eq_true rfl) (Nat.le_of_ble_eq_true rfl) h1 h2 hlk h1 h2
    · exact x_throwN C hlf ht htab (Nat.le_of_ble_eq_true rfl) (Nat.le_of_ble_eq_true rfl) h1 h2 hlk h1 h2
  have hout : ∀ (k9 : Nat), res.1 = .inr k9 → ∀ (cells9 slots9 pc9 : Nat) (lcs9 : List (Nat × Value)) (st9 : List Value), cells9 ≤ 1 → slots9 ≤ 6 → XO p l e ({ frames := 6, cells := 1, slots := 6, locals := 120 } : Room) s m args below meth c 6 cy D B cells9 slots9 (vx_MQ below (QX cy D B (Sum.map (fun x => some (Value.int x)) id res.1) res.2 μ ω) (XCX cy D B (Sum.map (fun x => some (Value.int x)) id res.1) res.2 μ ω) args s 1 6 (aB B)) pc9 lcs9 st9 res.2 μ ω k9 := fun k9 hx9 cells9 slots9 pc9 lcs9 st9 h1 h2 => by rw [hx9]; exact x_out C htab hlk h1 h2
  generalize (vx_MQ below (QX cy D B (Sum.map (fun x => some (Value.int x)) id res.1) res.2 μ ω) (XCX cy D B (Sum.map (fun x => some (Value.int x)) id res.1) res.2 μ ω) args s 1 6 (aB B)) = Q at hret hthr hout ⊢
  obtain ⟨R, hR9⟩ : ∃ R : Room, R = ({ frames := 6, cells := 1, slots := 6, locals := 120 } : Room) := ⟨_, rfl⟩
  rw [← hR9] at hret hthr hout ⊢
  unfold fX5_append at h
  show X p l e R s m args below meth c 6 cy D B 0 0 Q 0 [(0, .ref (B + oHB)), (1, .int p1), (2, .int p2), (3, .int p3), (4, .int p4), (5, .int p5)] [] σ μ ω
  refine x_aload_n C dX5_append_0 rfl 0 rfl ?_
  refine x_get C (C1 := "HostelBeds") (T := TX5) (N := 12) (ci := 5) inXg5 _ (c_HB) rfl 0 (by decide) (lw_g_mk tw_287 rfl) rfl dX5_append_1 ?_
  refine x_get C (C1 := "HostelBeds$Input") (T := TX2) (N := 7) (ci := 2) inXg2 _ (c_In) rfl 1 (by decide) (lw_g_mk tw_37 rfl) rfl dX5_append_4 ?_
  refine x_bipush C (v := 20) dX5_append_7 (by decide) ?_
  refine x_iadd C dX5_append_9 ?_
  refine x_sipush C (v := 700) dX5_append_10 (by decide) ?_
  refine x_icmp_le C (tgt := 26) dX5_append_13 (by decide) (fun hc1 => ?_) (fun hc1 => ?_)
  · rw [if_pos hc1] at h
    refine x_aload_n C dX5_append_26 rfl 0 rfl ?_
    refine x_get C (C1 := "HostelBeds") (T := TX5) (N := 12) (ci := 5) inXg5 _ (c_HB) rfl 0 (by decide) (lw_g_mk tw_287 rfl) rfl dX5_append_27 ?_
    refine x_iload_n C dX5_append_30 rfl 1 rfl ?_
    obtain ⟨q1, hk2, h⟩ := Option.bind_eq_some_iff.mp h
    refine x_callV C (As := [.int p1]) (rest := []) (lw_g_mk tw_546 rfl) (lw_g_mk tw_547 rfl) (c_In) (C1 := "HostelBeds$Input") (T := TX2) (N := 7) (ci := 2) rfl (okX2_put l cy D B ek p1 σ μ ω _ hk2) rfl rfl (by rw [hR9]; decide) (lw_g_mk tw_548 rfl) (lw_g_mk tw_2 rfl) (by decide) rfl (lw_g_mk tw_545 rfl) rfl (Nat.le_of_ble_eq_true rfl) dX5_append_31 (by rw [hR9]; decide) ?_
    refine x_aload_n C dX5_append_34 rfl 0 rfl ?_
    refine x_get C (C1 := "HostelBeds") (T := TX5) (N := 12) (ci := 5) inXg5 _ (c_HB) rfl 0 (by decide) (lw_g_mk tw_287 rfl) rfl dX5_append_35 ?_
    refine x_iload_n C dX5_append_38 rfl 2 rfl ?_
    obtain ⟨q2, hk3, h⟩ := Option.bind_eq_some_iff.mp h
    refine x_callV C (As := [.int p2]) (rest := []) (lw_g_mk tw_546 rfl) (lw_g_mk tw_547 rfl) (c_In) (C1 := "HostelBeds$Input") (T := TX2) (N := 7) (ci := 2) rfl (okX2_put l cy D B ek p2 q1 μ ω _ hk3) rfl rfl (by rw [hR9]; decide) (lw_g_mk tw_548 rfl) (lw_g_mk tw_2 rfl) (by decide) rfl (lw_g_mk tw_545 rfl) rfl (Nat.le_of_ble_eq_true rfl) dX5_append_39 (by rw [hR9]; decide) ?_
    refine x_aload_n C dX5_append_42 rfl 0 rfl ?_
    refine x_get C (C1 := "HostelBeds") (T := TX5) (N := 12) (ci := 5) inXg5 _ (c_HB) rfl 0 (by decide) (lw_g_mk tw_287 rfl) rfl dX5_append_43 ?_
    refine x_iload_n C dX5_append_46 rfl 3 rfl ?_
    obtain ⟨q3, hk4, h⟩ := Option.bind_eq_some_iff.mp h
    refine x_callV C (As := [.int p3]) (rest := []) (lw_g_mk tw_546 rfl) (lw_g_mk tw_547 rfl) (c_In) (C1 := "HostelBeds$Input") (T := TX2) (N := 7) (ci := 2) rfl (okX2_put l cy D B ek p3 q2 μ ω _ hk4) rfl rfl (by rw [hR9]; decide) (lw_g_mk tw_548 rfl) (lw_g_mk tw_2 rfl) (by decide) rfl (lw_g_mk tw_545 rfl) rfl (Nat.le_of_ble_eq_true rfl) dX5_append_47 (by rw [hR9]; decide) ?_
    refine x_aload_n C dX5_append_50 rfl 0 rfl ?_
    refine x_get C (C1 := "HostelBeds") (T := TX5) (N := 12) (ci := 5) inXg5 _ (c_HB) rfl 0 (by decide) (lw_g_mk tw_287 rfl) rfl dX5_append_51 ?_
    refine x_iload C dX5_append_54 4 rfl ?_
    obtain ⟨q4, hk5, h⟩ := Option.bind_eq_some_iff.mp h
    refine x_callV C (As := [.int p4]) (rest := []) (lw_g_mk tw_546 rfl) (lw_g_mk tw_547 rfl) (c_In) (C1 := "HostelBeds$Input") (T := TX2) (N := 7) (ci := 2) rfl (okX2_put l cy D B ek p4 q3 μ ω _ hk5) rfl rfl (by rw [hR9]; decide) (lw_g_mk tw_548 rfl) (lw_g_mk tw_2 rfl) (by decide) rfl (lw_g_mk tw_545 rfl) rfl (Nat.le_of_ble_eq_true rfl) dX5_append_56 (by rw [hR9]; decide) ?_
    refine x_aload_n C dX5_append_59 rfl 0 rfl ?_
    refine x_get C (C1 := "HostelBeds") (T := TX5) (N := 12) (ci := 5) inXg5 _ (c_HB) rfl 0 (by decide) (lw_g_mk tw_287 rfl) rfl dX5_append_60 ?_
    refine x_iload C dX5_append_63 5 rfl ?_
    obtain ⟨q5, hk6, h⟩ := Option.bind_eq_some_iff.mp h
    refine x_callV C (As := [.int p5]) (rest := []) (lw_g_mk tw_546 rfl) (lw_g_mk tw_547 rfl) (c_In) (C1 := "HostelBeds$Input") (T := TX2) (N := 7) (ci := 2) rfl (okX2_put l cy D B ek p5 q4 μ ω _ hk6) rfl rfl (by rw [hR9]; decide) (lw_g_mk tw_548 rfl) (lw_g_mk tw_2 rfl) (by decide) rfl (lw_g_mk tw_545 rfl) rfl (Nat.le_of_ble_eq_true rfl) dX5_append_65 (by rw [hR9]; decide) ?_
    refine x_aload_n C dX5_append_68 rfl 0 rfl ?_
    refine x_get C (C1 := "HostelBeds") (T := TX5) (N := 12) (ci := 5) inXg5 _ (c_HB) rfl 0 (by decide) (lw_g_mk tw_287 rfl) rfl dX5_append_69 ?_
    refine x_get C (C1 := "HostelBeds$Input") (T := TX2) (N := 7) (ci := 2) inXg2 _ (c_In) rfl 1 (by decide) (lw_g_mk tw_37 rfl) rfl dX5_append_72 ?_
    cases h
    exact hret _ rfl _ _ _ _ dX5_append_75 rfl (by decide) (by decide)
  · rw [if_neg hc1] at h
    cases h
    exact hthr _ rfl _ _ _ _ (Or.inl ⟨55, 57, 59, "the text would have more than 700 bytes", dX5_append_16, dX5_append_19, dX5_append_20, dX5_append_22, dX5_append_25, lw_g_mk tw_477 rfl, lw_g_mk tw_11 rfl, (by decide +kernel), (by decide +kernel), (by decide +kernel), hat_1, hgood_1⟩) (by decide) (by decide)
def jX5_truncate_15 (σ : Mem) : Option ((Unit ⊕ Nat) × Mem) := (some (.inr 2, σ))
def fX5_truncate (p1 : Int32) (σ : Mem) : Option ((Unit ⊕ Nat) × Mem) := (if p1 < 0 then (jX5_truncate_15 σ) else (if p1 ≤ (rI σ 7 0 0) then (some (.inl (), wI σ 7 0 0 p1)) else (jX5_truncate_15 σ)))
set_option maxHeartbeats 4000000 in
set_option maxRecDepth 100000 in
theorem okX5_truncate (l : Launch) (hlf : l.stackTraces = false) (cy : Nat → ClassId) (D : va_G) (B : Nat) (ek : EK) (p1 : Int32) (σ μ ω : Mem) (res : (Unit ⊕ Nat) × Mem) (h : fX5_truncate p1 σ = some res) : CTX l cy D B ek yX5_truncate cX5_truncate 2 none ({ frames := 6, cells := 1, slots := 6, locals := 120 } : Room) 1 6 [.ref (B + oHB), .int p1] σ μ ω (Sum.map (fun _ => (none : Option Value)) id res.1) res.2 μ ω := by
  refine met_XX (own := "HostelBeds") (by decide) rfl (Nat.le_of_ble_eq_true rfl) ?_
  intro p e s m args below meth c C hrT hlk htab
  have hret : ∀ (x9 : Unit), res.1 = .inl x9 → ∀ (cells9 slots9 pc9 : Nat) (lcs9 : List (Nat × Value)), decode cX5_truncate pc9 = .ok (.return_, 1) → cells9 ≤ 1 → slots9 ≤ 6 → X p l e ({ frames := 6, cells := 1, slots := 6, locals := 120 } : Room) s m args below meth c 2 cy D B cells9 slots9 (vx_MQ below (QX cy D B (Sum.map (fun _ => (none : Option Value)) id res.1) res.2 μ ω) (XCX cy D B (Sum.map (fun _ => (none : Option Value)) id res.1) res.2 μ ω) args s 1 6 (aB B)) pc9 lcs9 [] res.2 μ ω := fun x9 hx9 cells9 slots9 pc9 lcs9 hd h1 h2 => by rw [hx9]; exact x_vretX C hrT hlk hd h1 h2
  have hthr : ∀ (k9 : Nat), res.1 = .inr k9 → ∀ (cells9 slots9 pc9 : Nat) (lcs9 : List (Nat × Value)), (ThrowS "HostelBeds" cX5_truncate pc9 k9 ∨ ThrowSW "HostelBeds" cX5_truncate pc9 k9 ∨ ThrowN "HostelBeds" cX5_truncate pc9 k9) → cells9 + 1 ≤ 1 → slots9 + 6 ≤ 6 → X p l e ({ frames := 6, cells := 1, slots := 6, locals := 120 } : Room) s m args below meth c 2 cy D B cells9 slots9 (vx_MQ below (QX cy D B (Sum.map (fun _ => (none : Option Value)) id res.1) res.2 μ ω) (XCX cy D B (Sum.map (fun _ => (none : Option Value)) id res.1) res.2 μ ω) args s 1 6 (aB B)) pc9 lcs9 [] res.2 μ ω := fun k9 hx9 cells9 slots9 pc9 lcs9 ht h1 h2 => by
    rw [hx9]
    rcases ht with ht | ht | ht
    · exact x_throwS C hlf ht htab (Nat.le_of_ble_eq_true rfl) (Nat.le_of_ble_eq_true rfl) h1 h2 hlk h1 h2
    · exact x_throwSW C hlf ht htab (Nat.le_of_ble_eq_true rfl) (Nat.le_of_ble_eq_true rfl) h1 h2 hlk h1 h2
    · exact x_throwN C hlf ht htab (Nat.le_of_ble_eq_true rfl) (Nat.le_of_ble_eq_true rfl) h1 h2 hlk h1 h2
  have hout : ∀ (k9 : Nat), res.1 = .inr k9 → ∀ (cells9 slots9 pc9 : Nat) (lcs9 : List (Nat × Value)) (st9 : List Value), cells9 ≤ 1 → slots9 ≤ 6 → XO p l e ({ frames := 6, cells := 1, slots := 6, locals := 120 } : Room) s m args below meth c 2 cy D B cells9 slots9 (vx_MQ below (QX cy D B (Sum.map (fun _ => (none : Option Value)) id res.1) res.2 μ ω) (XCX cy D B (Sum.map (fun _ => (none : Option Value)) id res.1) res.2 μ ω) args s 1 6 (aB B)) pc9 lcs9 st9 res.2 μ ω k9 := fun k9 hx9 cells9 slots9 pc9 lcs9 st9 h1 h2 => by rw [hx9]; exact x_out C htab hlk h1 h2
  generalize (vx_MQ below (QX cy D B (Sum.map (fun _ => (none : Option Value)) id res.1) res.2 μ ω) (XCX cy D B (Sum.map (fun _ => (none : Option Value)) id res.1) res.2 μ ω) args s 1 6 (aB B)) = Q at hret hthr hout ⊢
  obtain ⟨R, hR9⟩ : ∃ R : Room, R = ({ frames := 6, cells := 1, slots := 6, locals := 120 } : Room) := ⟨_, rfl⟩
  rw [← hR9] at hret hthr hout ⊢
  unfold fX5_truncate at h
  show X p l e R s m args below meth c 2 cy D B 0 0 Q 0 [(0, .ref (B + oHB)), (1, .int p1)] [] σ μ ω
  refine x_iload_n C dX5_truncate_0 rfl 1 rfl ?_
  have hJ1 : ∀ (r9 : (Unit ⊕ Nat) × Mem), jX5_truncate_15 σ = some r9 → (∀ (x9 : Unit), r9.1 = .inl x9 → ∀ (cells9 slots9 pc9 : Nat) (lcs9 : List (Nat × Value)), decode cX5_truncate pc9 = .ok (.return_, 1) → cells9 ≤ 1 → slots9 ≤ 6 → X p l e R s m args below meth c 2 cy D B cells9 slots9 Q pc9 lcs9 [] r9.2 μ ω) → (∀ (k9 : Nat), r9.1 = .inr k9 → ∀ (cells9 slots9 pc9 : Nat) (lcs9 : List (Nat × Value)), (ThrowS "HostelBeds" cX5_truncate pc9 k9 ∨ ThrowSW "HostelBeds" cX5_truncate pc9 k9 ∨ ThrowN "HostelBeds" cX5_truncate pc9 k9) → cells9 + 1 ≤ 1 → slots9 + 6 ≤ 6 → X p l e R s m args below meth c 2 cy D B cells9 slots9 Q pc9 lcs9 [] r9.2 μ ω) → (∀ (k9 : Nat), r9.1 = .inr k9 → ∀ (cells9 slots9 pc9 : Nat) (lcs9 : List (Nat × Value)) (st9 : List Value), cells9 ≤ 1 → slots9 ≤ 6 → XO p l e R s m args below meth c 2 cy D B cells9 slots9 Q pc9 lcs9 st9 r9.2 μ ω k9) → X p l e R s m args below meth c 2 cy D B 0 0 Q 15 [] [] σ μ ω := by
    intro res9 h hret hthr hout
    unfold jX5_truncate_15 at h
    cases h
    exact hthr _ rfl _ _ _ _ (Or.inl ⟨66, 68, 70, "no such length", dX5_truncate_15, dX5_truncate_18, dX5_truncate_19, dX5_truncate_21, dX5_truncate_24, lw_g_mk tw_557 rfl, lw_g_mk tw_12 rfl, (by decide +kernel), (by decide +kernel), (by decide +kernel), hat_2, hgood_2⟩) (by decide) (by decide)
  refine x_if_lt C (tgt := 15) dX5_truncate_1 (by decide) (fun hc2 => ?_) (fun hc2 => ?_)
  · rw [if_pos hc2] at h
    refine x_sub [] rfl ?_
    exact hJ1 _ h hret hthr hout
  · rw [if_neg hc2] at h
    refine x_iload_n C dX5_truncate_4 rfl 1 rfl ?_
    refine x_aload_n C dX5_truncate_5 rfl 0 rfl ?_
    refine x_get C (C1 := "HostelBeds") (T := TX5) (N := 12) (ci := 5) inXg5 _ (c_HB) rfl 0 (by decide) (lw_g_mk tw_287 rfl) rfl dX5_truncate_6 ?_
    refine x_get C (C1 := "HostelBeds$Input") (T := TX2) (N := 7) (ci := 2) inXg2 _ (c_In) rfl 1 (by decide) (lw_g_mk tw_37 rfl) rfl dX5_truncate_9 ?_
    refine x_icmp_le C (tgt := 25) dX5_truncate_12 (by decide) (fun hc3 => ?_) (fun hc3 => ?_)
    · rw [if_pos hc3] at h
      refine x_aload_n C dX5_truncate_25 rfl 0 rfl ?_
      refine x_get C (C1 := "HostelBeds") (T := TX5) (N := 12) (ci := 5) inXg5 _ (c_HB) rfl 0 (by decide) (lw_g_mk tw_287 rfl) rfl dX5_truncate_26 ?_
      refine x_iload_n C dX5_truncate_29 rfl 1 rfl ?_
      refine x_put C (C1 := "HostelBeds$Input") (T := TX2) (N := 7) (ci := 2) inXg2 tyX2 tyX2_ok nmX2 _ (c_In) rfl 1 (by decide) (lw_g_mk tw_37 rfl) rfl rfl rfl rfl (Nat.le_of_ble_eq_true rfl) dX5_truncate_30 (s_In_length) ?_
      cases h
      exact hret _ rfl _ _ _ _ dX5_truncate_33 (by decide) (by decide)
    · rw [if_neg hc3] at h
      refine x_sub [] rfl ?_
      exact hJ1 _ h hret hthr hout
def fX5_load (σ : Mem) : Option ((Int32 ⊕ Nat) × Mem) := (gd (rP σ 1 < 12) ((fX2_read (rP σ 1) σ).bind fun q1 => (if (rI (wI (wI q1.2 1 0 0 q1.1) 7 0 0 (0 : Int32)) 1 0 0) = (-1 : Int32) then (gd (rP (wI (wI q1.2 1 0 0 q1.1) 7 0 0 (0 : Int32)) 1 < 12) (gd (rP (wI (wI q1.2 1 0 0 q1.1) 7 0 0 (0 : Int32)) 0 < 12) (gd (rP (wI (wP (wP (wI (wI q1.2 1 0 0 q1.1) 7 0 0 (0 : Int32)) 1 (rP (wI (wI q1.2 1 0 0 q1.1) 7 0 0 (0 : Int32)) 0)) 0 (rP (wI (wI q1.2 1 0 0 q1.1) 7 0 0 (0 : Int32)) 1)) 3 0 0 (0 : Int32)) 0 < 12) ((fX3_make 0 (rP (wI (wP (wP (wI (wI q1.2 1 0 0 q1.1) 7 0 0 (0 : Int32)) 1 (rP (wI (wI q1.2 1 0 0 q1.1) 7 0 0 (0 : Int32)) 0)) 0 (rP (wI (wI q1.2 1 0 0 q1.1) 7 0 0 (0 : Int32)) 1)) 3 0 0 (0 : Int32)) 0) (wI (wP (wP (wI (wI q1.2 1 0 0 q1.1) 7 0 0 (0 : Int32)) 1 (rP (wI (wI q1.2 1 0 0 q1.1) 7 0 0 (0 : Int32)) 0)) 0 (rP (wI (wI q1.2 1 0 0 q1.1) 7 0 0 (0 : Int32)) 1)) 3 0 0 (0 : Int32))).bind fun q2 => (gd (rP q2 0 < 12) (some (.inl (rI q2 22 (rP q2 0) 0), q2))))))) else (some (.inr 2, wI (wI q1.2 1 0 0 q1.1) 7 0 0 (0 : Int32))))))
set_option maxHeartbeats 4000000 in
set_option maxRecDepth 100000 in
theorem okX5_load (l : Launch) (hlf : l.stackTraces = false) (cy : Nat → ClassId) (D : va_G) (B : Nat) (ek : EK) (σ μ ω : Mem) (res : (Int32 ⊕ Nat) × Mem) (h : fX5_load σ = some res) : CTX l cy D B ek yX5_load cX5_load 2 (some .int) ({ frames := 11, cells := 1, slots := 6, locals := 228 } : Room) 1 6 [.ref (B + oHB)] σ μ ω (Sum.map (fun x => some (Value.int x)) id res.1) res.2 μ ω := by
  refine met_XX (own := "HostelBeds") (by decide) rfl (Nat.le_of_ble_eq_true rfl) ?_
  intro p e s m args below meth c C hrT hlk htab
  have hret : ∀ (x9 : Int32), res.1 = .inl x9 → ∀ (cells9 slots9 pc9 : Nat) (lcs9 : List (Nat × Value)), decode cX5_load pc9 = .ok (.ireturn, 1) → narrow .int (.int x9) = .int x9 → cells9 ≤ 1 → slots9 ≤ 6 → X p l e ({ frames := 11, cells := 1, slots := 6, locals := 228 } : Room) s m args below meth c 2 cy D B cells9 slots9 (vx_MQ below (QX cy D B (Sum.map (fun x => some (Value.int x)) id res.1) res.2 μ ω) (XCX cy D B (Sum.map (fun x => some (Value.int x)) id res.1) res.2 μ ω) args s 1 6 (aB B)) pc9 lcs9 [.int x9] res.2 μ ω := fun x9 hx9 cells9 slots9 pc9 lcs9 hd hn h1 h2 => by rw [hx9]; exact x_zretX C hrT hlk hn hd h1 h2
  have hthr : ∀ (k9 : Nat), res.1 = .inr k9 → ∀ (cells9 slots9 pc9 : Nat) (lcs9 : List (Nat × Value)), (ThrowS "HostelBeds" cX5_load pc9 k9 ∨ ThrowSW "HostelBeds" cX5_load pc9 k9 ∨ ThrowN "HostelBeds" cX5_load pc9 k9) → cells9 + 1 ≤ 1 → slots9 + 6 ≤ 6 → X p l e ({ frames := 11, cells := 1, slots := 6, locals := 228 } : Room) s m args below meth c 2 cy D B cells9 slots9 (vx_MQ below (QX cy D B (Sum.map (fun x => some (Value.int x)) id res.1) res.2 μ ω) (XCX cy D B (Sum.map (fun x => some (Value.int x)) id res.1) res.2 μ ω) args s 1 6 (aB B)) pc9 lcs9 [] res.2 μ ω := fun k9 hx9 cells9 slots9 pc9 lcs9 ht h1 h2 => by
    rw [hx9]
    rcases ht with ht | ht | ht
    · exact x_throwS C hlf ht htab (Nat.le_of_ble_eq_true rfl) (Nat.le_of_ble_eq_true rfl) h1 h2 hlk h1 h2
    · exact x_throwSW C hlf ht htab (Nat.le_of_ble_eq_true rfl) (Nat.le_of_ble_eq_true rfl) h1 h2 hlk h1 h2
    · exact x_throwN C hlf ht htab (Nat.le_of_ble_eq_true rfl) (Nat.le_of_ble_eq_true rfl) h1 h2 hlk h1 h2
  have hout : ∀ (k9 : Nat), res.1 = .inr k9 → ∀ (cells9 slots9 pc9 : Nat) (lcs9 : List (Nat × Value)) (st9 : List Value), cells9 ≤ 1 → slots9 ≤ 6 → XO p l e ({ frames := 11, cells := 1, slots := 6, locals := 228 } : Room) s m args below meth c 2 cy D B cells9 slots9 (vx_MQ below (QX cy D B (Sum.map (fun x => some (Value.int x)) id res.1) res.2 μ ω) (XCX cy D B (Sum.map (fun x => some (Value.int x)) id res.1) res.2 μ ω) args s 1 6 (aB B)) pc9 lcs9 st9 res.2 μ ω k9 := fun k9 hx9 cells9 slots9 pc9 lcs9 st9 h1 h2 => by rw [hx9]; exact x_out C htab hlk h1 h2
  generalize (vx_MQ below (QX cy D B (Sum.map (fun x => some (Value.int x)) id res.1) res.2 μ ω) (XCX cy D B (Sum.map (fun x => some (Value.int x)) id res.1) res.2 μ ω) args s 1 6 (aB B)) = Q at hret hthr hout ⊢
  obtain ⟨R, hR9⟩ : ∃ R : Room, R = ({ frames := 11, cells := 1, slots := 6, locals := 228 } : Room) := ⟨_, rfl⟩
  rw [← hR9] at hret hthr hout ⊢
  unfold fX5_load at h
  show X p l e R s m args below meth c 2 cy D B 0 0 Q 0 [(0, .ref (B + oHB))] [] σ μ ω
  refine x_aload_n C dX5_load_0 rfl 0 rfl ?_
  refine x_aload_n C dX5_load_1 rfl 0 rfl ?_
  refine x_get C (C1 := "HostelBeds") (T := TX5) (N := 12) (ci := 5) inXg5 _ (c_HB) rfl 0 (by decide) (lw_g_mk tw_287 rfl) rfl dX5_load_2 ?_
  refine x_aload_n C dX5_load_5 rfl 0 rfl ?_
  refine x_get C (C1 := "HostelBeds") (T := TX5) (N := 12) (ci := 5) inXg5 _ (c_HB) rfl 3 (by decide) (lw_g_mk tw_290 rfl) rfl dX5_load_6 ?_
  obtain ⟨hg1, h⟩ := gd_some h
  obtain ⟨q1, hk2, h⟩ := Option.bind_eq_some_iff.mp h
  refine x_callV C (As := [.ref (B + oHo (rP σ 1))]) (rest := [.ref (B + oHB)]) (lw_g_mk tw_581 rfl) (lw_g_mk tw_582 rfl) (c_In) (C1 := "HostelBeds$Input") (T := TX2) (N := 7) (ci := 2) rfl (okX2_read l cy D B ek (rP σ 1) σ μ ω hg1 _ hk2) rfl rfl (by rw [hR9]; decide) (lw_g_mk tw_583 rfl) (lw_g_mk tw_2 rfl) (by decide) rfl (lw_g_mk tw_580 rfl) rfl (Nat.le_of_ble_eq_true rfl) dX5_load_9 (by rw [hR9]; decide) ?_
  refine x_put C (C1 := "HostelBeds") (T := TX5) (N := 12) (ci := 5) inXg5 tyX5 tyX5_ok nmX5 _ (c_HB) rfl 1 (by decide) (lw_g_mk tw_288 rfl) rfl rfl rfl rfl (Nat.le_of_ble_eq_true rfl) dX5_load_12 (s_HB_wrongAt) ?_
  refine x_aload_n C dX5_load_15 rfl 0 rfl ?_
  refine x_get C (C1 := "HostelBeds") (T := TX5) (N := 12) (ci := 5) inXg5 _ (c_HB) rfl 0 (by decide) (lw_g_mk tw_287 rfl) rfl dX5_load_16 ?_
  refine x_iconst C (v := 0) dX5_load_19 (by decide) ?_
  refine x_put C (C1 := "HostelBeds$Input") (T := TX2) (N := 7) (ci := 2) inXg2 tyX2 tyX2_ok nmX2 _ (c_In) rfl 1 (by decide) (lw_g_mk tw_37 rfl) rfl rfl rfl rfl (Nat.le_of_ble_eq_true rfl) dX5_load_20 (s_In_length) ?_
  refine x_aload_n C dX5_load_23 rfl 0 rfl ?_
  refine x_get C (C1 := "HostelBeds") (T := TX5) (N := 12) (ci := 5) inXg5 _ (c_HB) rfl 1 (by decide) (lw_g_mk tw_288 rfl) rfl dX5_load_24 ?_
  refine x_iconst C (v := -1) dX5_load_27 (by decide) ?_
  refine x_icmp_eq C (tgt := 41) dX5_load_28 (by decide) (fun hc3 => ?_) (fun hc3 => ?_)
  · rw [if_pos hc3] at h
    refine x_aload_n C dX5_load_41 rfl 0 rfl ?_
    refine x_get C (C1 := "HostelBeds") (T := TX5) (N := 12) (ci := 5) inXg5 _ (c_HB) rfl 3 (by decide) (lw_g_mk tw_290 rfl) rfl dX5_load_42 ?_
    obtain ⟨hg4, h⟩ := gd_some h
    refine x_astore_n C [(1, .ref (B + oHo (rP (wI (wI q1.2 1 0 0 q1.1) 7 0 0 (0 : Int32)) 1))), (0, .ref (B + oHB))] dX5_load_45 rfl (by decide) rfl ?_
    refine x_aload_n C dX5_load_46 rfl 1 rfl ?_
    refine x_aload_n C dX5_load_47 rfl 1 rfl ?_
    refine x_get C (C1 := "HostelBeds") (T := TX5) (N := 12) (ci := 5) inXg5 _ (c_HB) rfl 2 (by decide) (lw_g_mk tw_289 rfl) rfl dX5_load_48 ?_
    obtain ⟨hg5, h⟩ := gd_some h
    refine x_put C (C1 := "HostelBeds") (T := TX5) (N := 12) (ci := 5) inXg5 tyX5 tyX5_ok nmX5 _ (c_HB) rfl 3 (by decide) (lw_g_mk tw_290 rfl) rfl rfl rfl rfl (Nat.le_of_ble_eq_true rfl) dX5_load_51 (s_HB_spare) ?_
    refine x_aload_n C dX5_load_54 rfl 1 rfl ?_
    refine x_aload_n C dX5_load_55 rfl 0 rfl ?_
    refine x_put C (C1 := "HostelBeds") (T := TX5) (N := 12) (ci := 5) inXg5 tyX5 tyX5_ok nmX5 _ (c_HB) rfl 2 (by decide) (lw_g_mk tw_289 rfl) rfl rfl rfl rfl (Nat.le_of_ble_eq_true rfl) dX5_load_56 (s_HB_now) ?_
    refine x_aload_n C dX5_load_59 rfl 1 rfl ?_
    refine x_iconst C (v := 0) dX5_load_60 (by decide) ?_
    refine x_put C (C1 := "HostelBeds") (T := TX5) (N := 12) (ci := 5) inXg5 tyX5 tyX5_ok nmX5 _ (c_HB) rfl 8 (by decide) (lw_g_mk tw_295 rfl) rfl rfl rfl rfl (Nat.le_of_ble_eq_true rfl) dX5_load_61 (s_HB_pastCount) ?_
    refine x_aload_n C dX5_load_64 rfl 1 rfl ?_
    refine x_get C (C1 := "HostelBeds") (T := TX5) (N := 12) (ci := 5) inXg5 _ (c_HB) rfl 4 (by decide) (lw_g_mk tw_291 rfl) rfl dX5_load_65 ?_
    refine x_aload_n C dX5_load_68 rfl 1 rfl ?_
    refine x_get C (C1 := "HostelBeds") (T := TX5) (N := 12) (ci := 5) inXg5 _ (c_HB) rfl 2 (by decide) (lw_g_mk tw_289 rfl) rfl dX5_load_69 ?_
    obtain ⟨hg6, h⟩ := gd_some h
    obtain ⟨q2, hk7, h⟩ := Option.bind_eq_some_iff.mp h
    refine x_callV C (As := [.ref (B + oHo (rP (wI (wP (wP (wI (wI q1.2 1 0 0 q1.1) 7 0 0 (0 : Int32)) 1 (rP (wI (wI q1.2 1 0 0 q1.1) 7 0 0 (0 : Int32)) 0)) 0 (rP (wI (wI q1.2 1 0 0 q1.1) 7 0 0 (0 : Int32)) 1)) 3 0 0 (0 : Int32)) 0))]) (rest := []) (lw_g_mk tw_413 rfl) (lw_g_mk tw_414 rfl) (c_Pl (by decide)) (C1 := "HostelBeds$Plan") (T := TX3) (N := 8) (ci := 3) rfl (okX3_make l cy D B ek 0 (rP (wI (wP (wP (wI (wI q1.2 1 0 0 q1.1) 7 0 0 (0 : Int32)) 1 (rP (wI (wI q1.2 1 0 0 q1.1) 7 0 0 (0 : Int32)) 0)) 0 (rP (wI (wI q1.2 1 0 0 q1.1) 7 0 0 (0 : Int32)) 1)) 3 0 0 (0 : Int32)) 0) (wI (wP (wP (wI (wI q1.2 1 0 0 q1.1) 7 0 0 (0 : Int32)) 1 (rP (wI (wI q1.2 1 0 0 q1.1) 7 0 0 (0 : Int32)) 0)) 0 (rP (wI (wI q1.2 1 0 0 q1.1) 7 0 0 (0 : Int32)) 1)) 3 0 0 (0 : Int32)) μ ω (by decide) hg6 _ hk7) rfl rfl (by rw [hR9]; decide) (lw_g_mk tw_415 rfl) (lw_g_mk tw_6 rfl) (by decide) rfl (lw_g_mk tw_412 rfl) rfl (Nat.le_of_ble_eq_true rfl) dX5_load_72 (by rw [hR9]; decide) ?_
    refine x_aload_n C dX5_load_75 rfl 1 rfl ?_
    refine x_get C (C1 := "HostelBeds") (T := TX5) (N := 12) (ci := 5) inXg5 _ (c_HB) rfl 2 (by decide) (lw_g_mk tw_289 rfl) rfl dX5_load_76 ?_
    obtain ⟨hg8, h⟩ := gd_some h
    refine x_get C (C1 := "HostelBeds$Hostel") (T := TX1) (N := 12) (ci := 1) inXg1 _ (c_Ho hg8) rfl 4 (by decide) (lw_g_mk tw_200 rfl) rfl dX5_load_79 ?_
    cases h
    exact hret _ rfl _ _ _ _ dX5_load_82 rfl (by decide) (by decide)
  · rw [if_neg hc3] at h
    cases h
    exact hthr _ rfl _ _ _ _ (Or.inl ⟨66, 75, 70, "the text does not match", dX5_load_31, dX5_load_34, dX5_load_35, dX5_load_37, dX5_load_40, lw_g_mk tw_557 rfl, lw_g_mk tw_12 rfl, (by decide +kernel), (by decide +kernel), (by decide +kernel), hat_2, hgood_2⟩) (by decide) (by decide)
def fX5_errorOffset (σ : Mem) : Option (Int32) := (some (rI σ 1 0 0))
set_option maxHeartbeats 4000000 in
set_option maxRecDepth 100000 in
theorem okX5_errorOffset (l : Launch) (cy : Nat → ClassId) (D : va_G) (B : Nat) (ek : EK) (σ μ ω : Mem) (res : Int32) (h : fX5_errorOffset σ = some res) : CT l cy D B ek yX5_errorOffset cX5_errorOffset 1 (some .int) ({ frames := 0, cells := 0, slots := 0, locals := 0 } : Room) [.ref (B + oHB)] σ μ ω (some (.int res)) σ μ ω := by
  refine met_X (own := "HostelBeds") (by decide) rfl (Nat.le_of_ble_eq_true rfl) ?_
  intro p e s m args below meth c C hrT hlk
  have hret : ∀ (pc9 : Nat) (lcs9 : List (Nat × Value)), decode cX5_errorOffset pc9 = .ok (.ireturn, 1) → narrow .int (.int res) = .int res → X p l e ({ frames := 0, cells := 0, slots := 0, locals := 0 } : Room) s m args below meth c 1 cy D B 0 0 (MQ below (QR cy D B (some (.int res)) σ μ ω) args s 0 0 (aB B)) pc9 lcs9 [.int res] σ μ ω := fun _ _ hd hn => x_zret C hrT hlk hn hd
  generalize (MQ below (QR cy D B (some (.int res)) σ μ ω) args s 0 0 (aB B)) = Q at hret ⊢
  obtain ⟨R, hR9⟩ : ∃ R : Room, R = ({ frames := 0, cells := 0, slots := 0, locals := 0 } : Room) := ⟨_, rfl⟩
  rw [← hR9] at hret ⊢
  unfold fX5_errorOffset at h
  show X p l e R s m args below meth c 1 cy D B 0 0 Q 0 [(0, .ref (B + oHB))] [] σ μ ω
  refine x_aload_n C dX5_errorOffset_0 rfl 0 rfl ?_
  refine x_get C (C1 := "HostelBeds") (T := TX5) (N := 12) (ci := 5) inXg5 _ (c_HB) rfl 1 (by decide) (lw_g_mk tw_288 rfl) rfl dX5_errorOffset_1 ?_
  cases h
  exact hret _ _ dX5_errorOffset_4 rfl
def fX5_count (p1 : Int32) (σ : Mem) : Option ((Int32 ⊕ Nat)) := (if p1 = (0 : Int32) then (gd (rP σ 0 < 12) (some (.inl (rI σ 20 (rP σ 0) 0)))) else (if p1 = (1 : Int32) then (gd (rP σ 0 < 12) (some (.inl (rI σ 21 (rP σ 0) 0)))) else (if p1 = (2 : Int32) then (gd (rP σ 0 < 12) (some (.inl (rI σ 22 (rP σ 0) 0)))) else (if p1 = (3 : Int32) then (gd (rP σ 0 < 12) ((fX1_countState (rP σ 0) (0 : Int32) σ).bind fun q1 => (some (.inl q1)))) else (if p1 = (4 : Int32) then (gd (rP σ 0 < 12) ((fX1_countState (rP σ 0) (1 : Int32) σ).bind fun q2 => (some (.inl q2)))) else (if p1 = (5 : Int32) then (gd (rP σ 0 < 12) ((fX1_countState (rP σ 0) (2 : Int32) σ).bind fun q3 => (some (.inl q3)))) else (some (.inr 2))))))))
set_option maxHeartbeats 4000000 in
set_option maxRecDepth 100000 in
theorem okX5_count (l : Launch) (hlf : l.stackTraces = false) (cy : Nat → ClassId) (D : va_G) (B : Nat) (ek : EK) (p1 : Int32) (σ μ ω : Mem) (res : (Int32 ⊕ Nat)) (h : fX5_count p1 σ = some res) : CTX l cy D B ek yX5_count cX5_count 2 (some .int) ({ frames := 6, cells := 1, slots := 6, locals := 120 } : Room) 1 6 [.ref (B + oHB), .int p1] σ μ ω (Sum.map (fun x => some (Value.int x)) id res) σ μ ω := by
  refine met_XX (own := "HostelBeds") (by decide) rfl (Nat.le_of_ble_eq_true rfl) ?_
  intro p e s m args below meth c C hrT hlk htab
  have hret : ∀ (x9 : Int32), res = .inl x9 → ∀ (cells9 slots9 pc9 : Nat) (lcs9 : List (Nat × Value)), decode cX5_count pc9 = .ok (.ireturn, 1) → narrow .int (.int x9) = .int x9 → cells9 ≤ 1 → slots9 ≤ 6 → X p l e ({ frames := 6, cells := 1, slots := 6, locals := 120 } : Room) s m args below meth c 2 cy D B cells9 slots9 (vx_MQ below (QX cy D B (Sum.map (fun x => some (Value.int x)) id res) σ μ ω) (XCX cy D B (Sum.map (fun x => some (Value.int x)) id res) σ μ ω) args s 1 6 (aB B)) pc9 lcs9 [.int x9] σ μ ω := fun x9 hx9 cells9 slots9 pc9 lcs9 hd hn h1 h2 => by rw [hx9]; exact x_zretX C hrT hlk hn hd h1 h2
  have hthr : ∀ (k9 : Nat), res = .inr k9 → ∀ (cells9 slots9 pc9 : Nat) (lcs9 : List (Nat × Value)), (ThrowS "HostelBeds" cX5_count pc9 k9 ∨ ThrowSW "HostelBeds" cX5_count pc9 k9 ∨ ThrowN "HostelBeds" cX5_count pc9 k9) → cells9 + 1 ≤ 1 → slots9 + 6 ≤ 6 → X p l e ({ frames := 6, cells := 1, slots := 6, locals := 120 } : Room) s m args below meth c 2 cy D B cells9 slots9 (vx_MQ below (QX cy D B (Sum.map (fun x => some (Value.int x)) id res) σ μ ω) (XCX cy D B (Sum.map (fun x => some (Value.int x)) id res) σ μ ω) args s 1 6 (aB B)) pc9 lcs9 [] σ μ ω := fun k9 hx9 cells9 slots9 pc9 lcs9 ht h1 h2 => by
    rw [hx9]
    rcases ht with ht | ht | ht
    · exact x_throwS C hlf ht htab (Nat.le_of_ble_eq_true rfl) (Nat.le_of_ble_eq_true rfl) h1 h2 hlk h1 h2
    · exact x_throwSW C hlf ht htab (Nat.le_of_ble_eq_true rfl) (Nat.le_of_ble_eq_true rfl) h1 h2 hlk h1 h2
    · exact x_throwN C hlf ht htab (Nat.le_of_ble_eq_true rfl) (Nat.le_of_ble_eq_true rfl) h1 h2 hlk h1 h2
  have hout : ∀ (k9 : Nat), res = .inr k9 → ∀ (cells9 slots9 pc9 : Nat) (lcs9 : List (Nat × Value)) (st9 : List Value), cells9 ≤ 1 → slots9 ≤ 6 → XO p l e ({ frames := 6, cells := 1, slots := 6, locals := 120 } : Room) s m args below meth c 2 cy D B cells9 slots9 (vx_MQ below (QX cy D B (Sum.map (fun x => some (Value.int x)) id res) σ μ ω) (XCX cy D B (Sum.map (fun x => some (Value.int x)) id res) σ μ ω) args s 1 6 (aB B)) pc9 lcs9 st9 σ μ ω k9 := fun k9 hx9 cells9 slots9 pc9 lcs9 st9 h1 h2 => by rw [hx9]; exact x_out C htab hlk h1 h2
  generalize (vx_MQ below (QX cy D B (Sum.map (fun x => some (Value.int x)) id res) σ μ ω) (XCX cy D B (Sum.map (fun x => some (Value.int x)) id res) σ μ ω) args s 1 6 (aB B)) = Q at hret hthr hout ⊢
  obtain ⟨R, hR9⟩ : ∃ R : Room, R = ({ frames := 6, cells := 1, slots := 6, locals := 120 } : Room) := ⟨_, rfl⟩
  rw [← hR9] at hret hthr hout ⊢
  unfold fX5_count at h
  show X p l e R s m args below meth c 2 cy D B 0 0 Q 0 [(0, .ref (B + oHB)), (1, .int p1)] [] σ μ ω
  refine x_iload_n C dX5_count_0 rfl 1 rfl ?_
  by_cases hc1 : p1 = 0
  · rw [if_pos hc1] at h
    refine x_tableIn C (tgt := 40) dX5_count_1 (by rw [hc1]; decide) (by rw [hc1]; decide) (by first | (rw [hc1]; done) | (rw [hc1]; rfl)) (by decide) ?_
    refine x_aload_n C dX5_count_40 rfl 0 rfl ?_
    refine x_get C (C1 := "HostelBeds") (T := TX5) (N := 12) (ci := 5) inXg5 _ (c_HB) rfl 2 (by decide) (lw_g_mk tw_289 rfl) rfl dX5_count_41 ?_
    obtain ⟨hg2, h⟩ := gd_some h
    refine x_get C (C1 := "HostelBeds$Hostel") (T := TX1) (N := 12) (ci := 1) inXg1 _ (c_Ho hg2) rfl 1 (by decide) (lw_g_mk tw_189 rfl) rfl dX5_count_44 ?_
    cases h
    exact hret _ rfl _ _ _ _ dX5_count_47 rfl (by decide) (by decide)
  rw [if_neg hc1] at h
  by_cases hc3 : p1 = 1
  · rw [if_pos hc3] at h
    refine x_tableIn C (tgt := 48) dX5_count_1 (by rw [hc3]; decide) (by rw [hc3]; decide) (by first | (rw [hc3]; done) | (rw [hc3]; rfl)) (by decide) ?_
    refine x_aload_n C dX5_count_48 rfl 0 rfl ?_
    refine x_get C (C1 := "HostelBeds") (T := TX5) (N := 12) (ci := 5) inXg5 _ (c_HB) rfl 2 (by decide) (lw_g_mk tw_289 rfl) rfl dX5_count_49 ?_
    obtain ⟨hg4, h⟩ := gd_some h
    refine x_get C (C1 := "HostelBeds$Hostel") (T := TX1) (N := 12) (ci := 1) inXg1 _ (c_Ho hg4) rfl 2 (by decide) (lw_g_mk tw_193 rfl) rfl dX5_count_52 ?_
    cases h
    exact hret _ rfl _ _ _ _ dX5_count_55 rfl (by decide) (by decide)
  rw [if_neg hc3] at h
  by_cases hc5 : p1 = 2
  · rw [if_pos hc5] at h
    refine x_tableIn C (tgt := 56) dX5_count_1 (by rw [hc5]; decide) (by rw [hc5]; decide) (by first | (rw [hc5]; done) | (rw [hc5]; rfl)) (by decide) ?_
    refine x_aload_n C dX5_count_56 rfl 0 rfl ?_
    refine x_get C (C1 := "HostelBeds") (T := TX5) (N := 12) (ci := 5) inXg5 _ (c_HB) rfl 2 (by decide) (lw_g_mk tw_289 rfl) rfl dX5_count_57 ?_
    obtain ⟨hg6, h⟩ := gd_some h
    refine x_get C (C1 := "HostelBeds$Hostel") (T := TX1) (N := 12) (ci := 1) inXg1 _ (c_Ho hg6) rfl 4 (by decide) (lw_g_mk tw_200 rfl) rfl dX5_count_60 ?_
    cases h
    exact hret _ rfl _ _ _ _ dX5_count_63 rfl (by decide) (by decide)
  rw [if_neg hc5] at h
  by_cases hc7 : p1 = 3
  · rw [if_pos hc7] at h
    refine x_tableIn C (tgt := 64) dX5_count_1 (by rw [hc7]; decide) (by rw [hc7]; decide) (by first | (rw [hc7]; done) | (rw [hc7]; rfl)) (by decide) ?_
    refine x_aload_n C dX5_count_64 rfl 0 rfl ?_
    refine x_get C (C1 := "HostelBeds") (T := TX5) (N := 12) (ci := 5) inXg5 _ (c_HB) rfl 2 (by decide) (lw_g_mk tw_289 rfl) rfl dX5_count_65 ?_
    obtain ⟨hg8, h⟩ := gd_some h
    refine x_iconst C (v := 0) dX5_count_68 (by decide) ?_
    obtain ⟨q1, hk9, h⟩ := Option.bind_eq_some_iff.mp h
    refine x_callV C (As := [.int (0 : Int32)]) (rest := []) (lw_g_mk tw_738 rfl) (lw_g_mk tw_739 rfl) (c_Ho hg8) (C1 := "HostelBeds$Hostel") (T := TX1) (N := 12) (ci := 1) rfl (okX1_countState l cy D B ek (rP σ 0) (0 : Int32) σ μ ω hg8 _ hk9) rfl rfl (by rw [hR9]; decide) (lw_g_mk tw_740 rfl) (lw_g_mk tw_3 rfl) (by decide) rfl (lw_g_mk tw_737 rfl) rfl (Nat.le_of_ble_eq_true rfl) dX5_count_69 (by rw [hR9]; decide) ?_
    cases h
    exact hret _ rfl _ _ _ _ dX5_count_72 rfl (by decide) (by decide)
  rw [if_neg hc7] at h
  by_cases hc10 : p1 = 4
  · rw [if_pos hc10] at h
    refine x_tableIn C (tgt := 73) dX5_count_1 (by rw [hc10]; decide) (by rw [hc10]; decide) (by first | (rw [hc10]; done) | (rw [hc10]; rfl)) (by decide) ?_
    refine x_aload_n C dX5_count_73 rfl 0 rfl ?_
    refine x_get C (C1 := "HostelBeds") (T := TX5) (N := 12) (ci := 5) inXg5 _ (c_HB) rfl 2 (by decide) (lw_g_mk tw_289 rfl) rfl dX5_count_74 ?_
    obtain ⟨hg11, h⟩ := gd_some h
    refine x_iconst C (v := 1) dX5_count_77 (by decide) ?_
    obtain ⟨q2, hk12, h⟩ := Option.bind_eq_some_iff.mp h
    refine x_callV C (As := [.int (1 : Int32)]) (rest := []) (lw_g_mk tw_738 rfl) (lw_g_mk tw_739 rfl) (c_Ho hg11) (C1 := "HostelBeds$Hostel") (T := TX1) (N := 12) (ci := 1) rfl (okX1_countState l cy D B ek (rP σ 0) (1 : Int32) σ μ ω hg11 _ hk12) rfl rfl (by rw [hR9]; decide) (lw_g_mk tw_740 rfl) (lw_g_mk tw_3 rfl) (by decide) rfl (lw_g_mk tw_737 rfl) rfl (Nat.le_of_ble_eq_true rfl) dX5_count_78 (by rw [hR9]; decide) ?_
    cases h
    exact hret _ rfl _ _ _ _ dX5_count_81 rfl (by decide) (by decide)
  rw [if_neg hc10] at h
  by_cases hc13 : p1 = 5
  · rw [if_pos hc13] at h
    refine x_tableIn C (tgt := 82) dX5_count_1 (by rw [hc13]; decide) (by rw [hc13]; decide) (by first | (rw [hc13]; done) | (rw [hc13]; rfl)) (by decide) ?_
    refine x_aload_n C dX5_count_82 rfl 0 rfl ?_
    refine x_get C (C1 := "HostelBeds") (T := TX5) (N := 12) (ci := 5) inXg5 _ (c_HB) rfl 2 (by decide) (lw_g_mk tw_289 rfl) rfl dX5_count_83 ?_
    obtain ⟨hg14, h⟩ := gd_some h
    refine x_iconst C (v := 2) dX5_count_86 (by decide) ?_
    obtain ⟨q3, hk15, h⟩ := Option.bind_eq_some_iff.mp h
    refine x_callV C (As := [.int (2 : Int32)]) (rest := []) (lw_g_mk tw_738 rfl) (lw_g_mk tw_739 rfl) (c_Ho hg14) (C1 := "HostelBeds$Hostel") (T := TX1) (N := 12) (ci := 1) rfl (okX1_countState l cy D B ek (rP σ 0) (2 : Int32) σ μ ω hg14 _ hk15) rfl rfl (by rw [hR9]; decide) (lw_g_mk tw_740 rfl) (lw_g_mk tw_3 rfl) (by decide) rfl (lw_g_mk tw_737 rfl) rfl (Nat.le_of_ble_eq_true rfl) dX5_count_87 (by rw [hR9]; decide) ?_
    cases h
    exact hret _ rfl _ _ _ _ dX5_count_90 rfl (by decide) (by decide)
  rw [if_neg hc13] at h
  refine x_tableOut C (tgt := 91) dX5_count_1 (by have := lv_neT hc1 (a := 0) (by decide); have := lv_neT hc3 (a := 1) (by decide); have := lv_neT hc5 (a := 2) (by decide); have := lv_neT hc7 (a := 3) (by decide); have := lv_neT hc10 (a := 4) (by decide); have := lv_neT hc13 (a := 5) (by decide); omega) (by decide) ?_
  cases h
  exact hthr _ rfl _ _ _ _ (Or.inl ⟨66, 97, 70, "no such count", dX5_count_91, dX5_count_94, dX5_count_95, dX5_count_97, dX5_count_100, lw_g_mk tw_557 rfl, lw_g_mk tw_12 rfl, (by decide +kernel), (by decide +kernel), (by decide +kernel), hat_2, hgood_2⟩) (by decide) (by decide)
def fX5_setting (p1 : Int32) (σ : Mem) : Option ((Int32 ⊕ Nat)) := (if p1 = (0 : Int32) then (gd (rP σ 0 < 12) (some (.inl (rI σ 24 (rP σ 0) 0)))) else (if p1 = (1 : Int32) then (gd (rP σ 0 < 12) (some (.inl (rI σ 25 (rP σ 0) 0)))) else (if p1 = (2 : Int32) then (gd (rP σ 0 < 12) (some (.inl (rI σ 26 (rP σ 0) 0)))) else (if p1 = (3 : Int32) then (gd (rP σ 0 < 12) (some (.inl (rI σ 27 (rP σ 0) 0)))) else (some (.inr 2))))))
set_option maxHeartbeats 4000000 in
set_option maxRecDepth 100000 in
theorem okX5_setting (l : Launch) (hlf : l.stackTraces = false) (cy : Nat → ClassId) (D : va_G) (B : Nat) (ek : EK) (p1 : Int32) (σ μ ω : Mem) (res : (Int32 ⊕ Nat)) (h : fX5_setting p1 σ = some res) : CTX l cy D B ek yX5_setting cX5_setting 2 (some .int) ({ frames := 6, cells := 1, slots := 6, locals := 120 } : Room) 1 6 [.ref (B + oHB), .int p1] σ μ ω (Sum.map (fun x => some (Value.int x)) id res) σ μ ω := by
  refine met_XX (own := "HostelBeds") (by decide) rfl (Nat.le_of_ble_eq_true rfl) ?_
  intro p e s m args below meth c C hrT hlk htab
  have hret : ∀ (x9 : Int32), res = .inl x9 → ∀ (cells9 slots9 pc9 : Nat) (lcs9 : List (Nat × Value)), decode cX5_setting pc9 = .ok (.ireturn, 1) → narrow .int (.int x9) = .int x9 → cells9 ≤ 1 → slots9 ≤ 6 → X p l e ({ frames := 6, cells := 1, slots := 6, locals := 120 } : Room) s m args below meth c 2 cy D B cells9 slots9 (vx_MQ below (QX cy D B (Sum.map (fun x => some (Value.int x)) id res) σ μ ω) (XCX cy D B (Sum.map (fun x => some (Value.int x)) id res) σ μ ω) args s 1 6 (aB B)) pc9 lcs9 [.int x9] σ μ ω := fun x9 hx9 cells9 slots9 pc9 lcs9 hd hn h1 h2 => by rw [hx9]; exact x_zretX C hrT hlk hn hd h1 h2
  have hthr : ∀ (k9 : Nat), res = .inr k9 → ∀ (cells9 slots9 pc9 : Nat) (lcs9 : List (Nat × Value)), (ThrowS "HostelBeds" cX5_setting pc9 k9 ∨ ThrowSW "HostelBeds" cX5_setting pc9 k9 ∨ ThrowN "HostelBeds" cX5_setting pc9 k9) → cells9 + 1 ≤ 1 → slots9 + 6 ≤ 6 → X p l e ({ frames := 6, cells := 1, slots := 6, locals := 120 } : Room) s m args below meth c 2 cy D B cells9 slots9 (vx_MQ below (QX cy D B (Sum.map (fun x => some (Value.int x)) id res) σ μ ω) (XCX cy D B (Sum.map (fun x => some (Value.int x)) id res) σ μ ω) args s 1 6 (aB B)) pc9 lcs9 [] σ μ ω := fun k9 hx9 cells9 slots9 pc9 lcs9 ht h1 h2 => by
    rw [hx9]
    rcases ht with ht | ht | ht
    · exact x_throwS C hlf ht htab (Nat.le_of_ble_eq_true rfl) (Nat.le_of_ble_eq_true rfl) h1 h2 hlk h1 h2
    · exact x_throwSW C hlf ht htab (Nat.le_of_ble_eq_true rfl) (Nat.le_of_ble_eq_true rfl) h1 h2 hlk h1 h2
    · exact x_throwN C hlf ht htab (Nat.le_of_ble_eq_true rfl) (Nat.le_of_ble_eq_true rfl) h1 h2 hlk h1 h2
  have hout : ∀ (k9 : Nat), res = .inr k9 → ∀ (cells9 slots9 pc9 : Nat) (lcs9 : List (Nat × Value)) (st9 : List Value), cells9 ≤ 1 → slots9 ≤ 6 → XO p l e ({ frames := 6, cells := 1, slots := 6, locals := 120 } : Room) s m args below meth c 2 cy D B cells9 slots9 (vx_MQ below (QX cy D B (Sum.map (fun x => some (Value.int x)) id res) σ μ ω) (XCX cy D B (Sum.map (fun x => some (Value.int x)) id res) σ μ ω) args s 1 6 (aB B)) pc9 lcs9 st9 σ μ ω k9 := fun k9 hx9 cells9 slots9 pc9 lcs9 st9 h1 h2 => by rw [hx9]; exact x_out C htab hlk h1 h2
  generalize (vx_MQ below (QX cy D B (Sum.map (fun x => some (Value.int x)) id res) σ μ ω) (XCX cy D B (Sum.map (fun x => some (Value.int x)) id res) σ μ ω) args s 1 6 (aB B)) = Q at hret hthr hout ⊢
  obtain ⟨R, hR9⟩ : ∃ R : Room, R = ({ frames := 6, cells := 1, slots := 6, locals := 120 } : Room) := ⟨_, rfl⟩
  rw [← hR9] at hret hthr hout ⊢
  unfold fX5_setting at h
  show X p l e R s m args below meth c 2 cy D B 0 0 Q 0 [(0, .ref (B + oHB)), (1, .int p1)] [] σ μ ω
  refine x_iload_n C dX5_setting_0 rfl 1 rfl ?_
  by_cases hc1 : p1 = 0
  · rw [if_pos hc1] at h
    refine x_tableIn C (tgt := 32) dX5_setting_1 (by rw [hc1]; decide) (by rw [hc1]; decide) (by first | (rw [hc1]; done) | (rw [hc1]; rfl)) (by decide) ?_
    refine x_aload_n C dX5_setting_32 rfl 0 rfl ?_
    refine x_get C (C1 := "HostelBeds") (T := TX5) (N := 12) (ci := 5) inXg5 _ (c_HB) rfl 2 (by decide) (lw_g_mk tw_289 rfl) rfl dX5_setting_33 ?_
    obtain ⟨hg2, h⟩ := gd_some h
    refine x_get C (C1 := "HostelBeds$Hostel") (T := TX1) (N := 12) (ci := 1) inXg1 _ (c_Ho hg2) rfl 8 (by decide) (lw_g_mk tw_210 rfl) rfl dX5_setting_36 ?_
    cases h
    exact hret _ rfl _ _ _ _ dX5_setting_39 rfl (by decide) (by decide)
  rw [if_neg hc1] at h
  by_cases hc3 : p1 = 1
  · rw [if_pos hc3] at h
    refine x_tableIn C (tgt := 40) dX5_setting_1 (by rw [hc3]; decide) (by rw [hc3]; decide) (by first | (rw [hc3]; done) | (rw [hc3]; rfl)) (by decide) ?_
    refine x_aload_n C dX5_setting_40 rfl 0 rfl ?_
    refine x_get C (C1 := "HostelBeds") (T := TX5) (N := 12) (ci := 5) inXg5 _ (c_HB) rfl 2 (by decide) (lw_g_mk tw_289 rfl) rfl dX5_setting_41 ?_
    obtain ⟨hg4, h⟩ := gd_some h
    refine x_get C (C1 := "HostelBeds$Hostel") (T := TX1) (N := 12) (ci := 1) inXg1 _ (c_Ho hg4) rfl 9 (by decide) (lw_g_mk tw_213 rfl) rfl dX5_setting_44 ?_
    cases h
    exact hret _ rfl _ _ _ _ dX5_setting_47 rfl (by decide) (by decide)
  rw [if_neg hc3] at h
  by_cases hc5 : p1 = 2
  · rw [if_pos hc5] at h
    refine x_tableIn C (tgt := 48) dX5_setting_1 (by rw [hc5]; decide) (by rw [hc5]; decide) (by first | (rw [hc5]; done) | (rw [hc5]; rfl)) (by decide) ?_
    refine x_aload_n C dX5_setting_48 rfl 0 rfl ?_
    refine x_get C (C1 := "HostelBeds") (T := TX5) (N := 12) (ci := 5) inXg5 _ (c_HB) rfl 2 (by decide) (lw_g_mk tw_289 rfl) rfl dX5_setting_49 ?_
    obtain ⟨hg6, h⟩ := gd_some h
    refine x_get C (C1 := "HostelBeds$Hostel") (T := TX1) (N := 12) (ci := 1) inXg1 _ (c_Ho hg6) rfl 10 (by decide) (lw_g_mk tw_217 rfl) rfl dX5_setting_52 ?_
    cases h
    exact hret _ rfl _ _ _ _ dX5_setting_55 rfl (by decide) (by decide)
  rw [if_neg hc5] at h
  by_cases hc7 : p1 = 3
  · rw [if_pos hc7] at h
    refine x_tableIn C (tgt := 56) dX5_setting_1 (by rw [hc7]; decide) (by rw [hc7]; decide) (by first | (rw [hc7]; done) | (rw [hc7]; rfl)) (by decide) ?_
    refine x_aload_n C dX5_setting_56 rfl 0 rfl ?_
    refine x_get C (C1 := "HostelBeds") (T := TX5) (N := 12) (ci := 5) inXg5 _ (c_HB) rfl 2 (by decide) (lw_g_mk tw_289 rfl) rfl dX5_setting_57 ?_
    obtain ⟨hg8, h⟩ := gd_some h
    refine x_get C (C1 := "HostelBeds$Hostel") (T := TX1) (N := 12) (ci := 1) inXg1 _ (c_Ho hg8) rfl 11 (by decide) (lw_g_mk tw_221 rfl) rfl dX5_setting_60 ?_
    cases h
    exact hret _ rfl _ _ _ _ dX5_setting_63 rfl (by decide) (by decide)
  rw [if_neg hc7] at h
  refine x_tableOut C (tgt := 64) dX5_setting_1 (by have := lv_neT hc1 (a := 0) (by decide); have := lv_neT hc3 (a := 1) (by decide); have := lv_neT hc5 (a := 2) (by decide); have := lv_neT hc7 (a := 3) (by decide); omega) (by decide) ?_
  cases h
  exact hthr _ rfl _ _ _ _ (Or.inl ⟨66, 111, 70, "no such setting", dX5_setting_64, dX5_setting_67, dX5_setting_68, dX5_setting_70, dX5_setting_73, lw_g_mk tw_557 rfl, lw_g_mk tw_12 rfl, (by decide +kernel), (by decide +kernel), (by decide +kernel), hat_2, hgood_2⟩) (by decide) (by decide)
def jX5_checkRoom_15 : Option ((Unit ⊕ Nat)) := (some (.inr 3))
def fX5_checkRoom (p1 : Int32) (σ : Mem) : Option ((Unit ⊕ Nat)) := (if p1 < 0 then (jX5_checkRoom_15) else (gd (rP σ 0 < 12) (if p1 < (rI σ 20 (rP σ 0) 0) then (some (.inl ())) else (jX5_checkRoom_15))))
set_option maxHeartbeats 4000000 in
set_option maxRecDepth 100000 in
theorem okX5_checkRoom (l : Launch) (hlf : l.stackTraces = false) (cy : Nat → ClassId) (D : va_G) (B : Nat) (ek : EK) (p1 : Int32) (σ μ ω : Mem) (res : (Unit ⊕ Nat)) (h : fX5_checkRoom p1 σ = some res) : CTX l cy D B ek yX5_checkRoom cX5_checkRoom 2 none ({ frames := 6, cells := 1, slots := 6, locals := 120 } : Room) 1 6 [.ref (B + oHB), .int p1] σ μ ω (Sum.map (fun _ => (none : Option Value)) id res) σ μ ω := by
  refine met_XX (own := "HostelBeds") (by decide) rfl (Nat.le_of_ble_eq_true rfl) ?_
  intro p e s m args below meth c C hrT hlk htab
  have hret : ∀ (x9 : Unit), res = .inl x9 → ∀ (cells9 slots9 pc9 : Nat) (lcs9 : List (Nat × Value)), decode cX5_checkRoom pc9 = .ok (.return_, 1) → cells9 ≤ 1 → slots9 ≤ 6 → X p l e ({ frames := 6, cells := 1, slots := 6, locals := 120 } : Room) s m args below meth c 2 cy D B cells9 slots9 (vx_MQ below (QX cy D B (Sum.map (fun _ => (none : Option Value)) id res) σ μ ω) (XCX cy D B (Sum.map (fun _ => (none : Option Value)) id res) σ μ ω) args s 1 6 (aB B)) pc9 lcs9 [] σ μ ω := fun x9 hx9 cells9 slots9 pc9 lcs9 hd h1 h2 => by rw [hx9]; exact x_vretX C hrT hlk hd h1 h2
  have hthr : ∀ (k9 : Nat), res = .inr k9 → ∀ (cells9 slots9 pc9 : Nat) (lcs9 : List (Nat × Value)), (ThrowS "HostelBeds" cX5_checkRoom pc9 k9 ∨ ThrowSW "HostelBeds" cX5_checkRoom pc9 k9 ∨ ThrowN "HostelBeds" cX5_checkRoom pc9 k9) → cells9 + 1 ≤ 1 → slots9 + 6 ≤ 6 → X p l e ({ frames := 6, cells := 1, slots := 6, locals := 120 } : Room) s m args below meth c 2 cy D B cells9 slots9 (vx_MQ below (QX cy D B (Sum.map (fun _ => (none : Option Value)) id res) σ μ ω) (XCX cy D B (Sum.map (fun _ => (none : Option Value)) id res) σ μ ω) args s 1 6 (aB B)) pc9 lcs9 [] σ μ ω := fun k9 hx9 cells9 slots9 pc9 lcs9 ht h1 h2 => by
    rw [hx9]
    rcases ht with ht | ht | ht
    · exact x_throwS C hlf ht htab (Nat.le_of_ble_eq_true rfl) (Nat.le_of_ble_eq_true rfl) h1 h2 hlk h1 h2
    · exact x_throwSW C hlf ht htab (Nat.le_of_ble_eq_true rfl) (Nat.le_of_ble_eq_true rfl) h1 h2 hlk h1 h2
    · exact x_throwN C hlf ht htab (Nat.le_of_ble_eq_true rfl) (Nat.le_of_ble_eq_true rfl) h1 h2 hlk h1 h2
  have hout : ∀ (k9 : Nat), res = .inr k9 → ∀ (cells9 slots9 pc9 : Nat) (lcs9 : List (Nat × Value)) (st9 : List Value), cells9 ≤ 1 → slots9 ≤ 6 → XO p l e ({ frames := 6, cells := 1, slots := 6, locals := 120 } : Room) s m args below meth c 2 cy D B cells9 slots9 (vx_MQ below (QX cy D B (Sum.map (fun _ => (none : Option Value)) id res) σ μ ω) (XCX cy D B (Sum.map (fun _ => (none : Option Value)) id res) σ μ ω) args s 1 6 (aB B)) pc9 lcs9 st9 σ μ ω k9 := fun k9 hx9 cells9 slots9 pc9 lcs9 st9 h1 h2 => by rw [hx9]; exact x_out C htab hlk h1 h2
  generalize (vx_MQ below (QX cy D B (Sum.map (fun _ => (none : Option Value)) id res) σ μ ω) (XCX cy D B (Sum.map (fun _ => (none : Option Value)) id res) σ μ ω) args s 1 6 (aB B)) = Q at hret hthr hout ⊢
  obtain ⟨R, hR9⟩ : ∃ R : Room, R = ({ frames := 6, cells := 1, slots := 6, locals := 120 } : Room) := ⟨_, rfl⟩
  rw [← hR9] at hret hthr hout ⊢
  unfold fX5_checkRoom at h
  show X p l e R s m args below meth c 2 cy D B 0 0 Q 0 [(0, .ref (B + oHB)), (1, .int p1)] [] σ μ ω
  refine x_iload_n C dX5_checkRoom_0 rfl 1 rfl ?_
  have hJ1 : ∀ (r9 : (Unit ⊕ Nat)), jX5_checkRoom_15 = some r9 → (∀ (x9 : Unit), r9 = .inl x9 → ∀ (cells9 slots9 pc9 : Nat) (lcs9 : List (Nat × Value)), decode cX5_checkRoom pc9 = .ok (.return_, 1) → cells9 ≤ 1 → slots9 ≤ 6 → X p l e R s m args below meth c 2 cy D B cells9 slots9 Q pc9 lcs9 [] σ μ ω) → (∀ (k9 : Nat), r9 = .inr k9 → ∀ (cells9 slots9 pc9 : Nat) (lcs9 : List (Nat × Value)), (ThrowS "HostelBeds" cX5_checkRoom pc9 k9 ∨ ThrowSW "HostelBeds" cX5_checkRoom pc9 k9 ∨ ThrowN "HostelBeds" cX5_checkRoom pc9 k9) → cells9 + 1 ≤ 1 → slots9 + 6 ≤ 6 → X p l e R s m args below meth c 2 cy D B cells9 slots9 Q pc9 lcs9 [] σ μ ω) → (∀ (k9 : Nat), r9 = .inr k9 → ∀ (cells9 slots9 pc9 : Nat) (lcs9 : List (Nat × Value)) (st9 : List Value), cells9 ≤ 1 → slots9 ≤ 6 → XO p l e R s m args below meth c 2 cy D B cells9 slots9 Q pc9 lcs9 st9 σ μ ω k9) → X p l e R s m args below meth c 2 cy D B 0 0 Q 15 [] [] σ μ ω := by
    intro res9 h hret hthr hout
    unfold jX5_checkRoom_15 at h
    cases h
    exact hthr _ rfl _ _ _ _ (Or.inr (Or.inl ⟨192, 350, 196, "no such room", dX5_checkRoom_15, dX5_checkRoom_18, dX5_checkRoom_19, dX5_checkRoom_22, dX5_checkRoom_25, lw_g_mk tw_762 rfl, lw_g_mk tw_19 rfl, (by decide +kernel), (by decide +kernel), (by decide +kernel), hat_3, hgood_3⟩)) (by decide) (by decide)
  refine x_if_lt C (tgt := 15) dX5_checkRoom_1 (by decide) (fun hc2 => ?_) (fun hc2 => ?_)
  · rw [if_pos hc2] at h
    refine x_sub [] rfl ?_
    exact hJ1 _ h hret hthr hout
  · rw [if_neg hc2] at h
    refine x_iload_n C dX5_checkRoom_4 rfl 1 rfl ?_
    refine x_aload_n C dX5_checkRoom_5 rfl 0 rfl ?_
    refine x_get C (C1 := "HostelBeds") (T := TX5) (N := 12) (ci := 5) inXg5 _ (c_HB) rfl 2 (by decide) (lw_g_mk tw_289 rfl) rfl dX5_checkRoom_6 ?_
    obtain ⟨hg3, h⟩ := gd_some h
    refine x_get C (C1 := "HostelBeds$Hostel") (T := TX1) (N := 12) (ci := 1) inXg1 _ (c_Ho hg3) rfl 1 (by decide) (lw_g_mk tw_189 rfl) rfl dX5_checkRoom_9 ?_
    refine x_icmp_lt C (tgt := 26) dX5_checkRoom_12 (by decide) (fun hc4 => ?_) (fun hc4 => ?_)
    · rw [if_pos hc4] at h
      cases h
      exact hret _ rfl _ _ _ _ dX5_checkRoom_26 (by decide) (by decide)
    · rw [if_neg hc4] at h
      refine x_sub [] rfl ?_
      exact hJ1 _ h hret hthr hout
def fX5_room (p1 : Int32) (p2 : Int32) (σ : Mem) : Option ((Int32 ⊕ Nat)) := ((fX5_checkRoom p1 σ).bind fun q1 => Sum.elim (fun x2 => (gd (rP σ 0 < 12) (gd (inb p1 8) (if p2 = (0 : Int32) then (some (.inl (rI σ 30 (rP σ 0) p1.toNatClampNeg))) else (if p2 = (1 : Int32) then (some (.inl (rI σ 31 (rP σ 0) p1.toNatClampNeg))) else (if p2 = (2 : Int32) then (some (.inl (rI σ 32 (rP σ 0) p1.toNatClampNeg))) else (if p2 = (3 : Int32) then (some (.inl (rI σ 33 (rP σ 0) p1.toNatClampNeg))) else (some (.inr 2))))))))) (fun e3 => (some (.inr e3))) q1)
set_option maxHeartbeats 4000000 in
set_option maxRecDepth 100000 in
theorem okX5_room (l : Launch) (hlf : l.stackTraces = false) (cy : Nat → ClassId) (D : va_G) (B : Nat) (ek : EK) (p1 : Int32) (p2 : Int32) (σ μ ω : Mem) (res : (Int32 ⊕ Nat)) (h : fX5_room p1 p2 σ = some res) : CTX l cy D B ek yX5_room cX5_room 4 (some .int) ({ frames := 7, cells := 2, slots := 12, locals := 141 } : Room) 2 12 [.ref (B + oHB), .int p1, .int p2] σ μ ω (Sum.map (fun x => some (Value.int x)) id res) σ μ ω := by
  refine met_XX (own := "HostelBeds") (by decide) rfl (Nat.le_of_ble_eq_true rfl) ?_
  intro p e s m args below meth c C hrT hlk htab
  have hret : ∀ (x9 : Int32), res = .inl x9 → ∀ (cells9 slots9 pc9 : Nat) (lcs9 : List (Nat × Value)), decode cX5_room pc9 = .ok (.ireturn, 1) → narrow .int (.int x9) = .int x9 → cells9 ≤ 2 → slots9 ≤ 12 → X p l e ({ frames := 7, cells := 2, slots := 12, locals := 141 } : Room) s m args below meth c 4 cy D B cells9 slots9 (vx_MQ below (QX cy D B (Sum.map (fun x => some (Value.int x)) id res) σ μ ω) (XCX cy D B (Sum.map (fun x => some (Value.int x)) id res) σ μ ω) args s 2 12 (aB B)) pc9 lcs9 [.int x9] σ μ ω := fun x9 hx9 cells9 slots9 pc9 lcs9 hd hn h1 h2 => by rw [hx9]; exact x_zretX C hrT hlk hn hd h1 h2
  have hthr : ∀ (k9 : Nat), res = .inr k9 → ∀ (cells9 slots9 pc9 : Nat) (lcs9 : List (Nat × Value)), (ThrowS "HostelBeds" cX5_room pc9 k9 ∨ ThrowSW "HostelBeds" cX5_room pc9 k9 ∨ ThrowN "HostelBeds" cX5_room pc9 k9) → cells9 + 1 ≤ 2 → slots9 + 6 ≤ 12 → X p l e ({ frames := 7, cells := 2, slots := 12, locals := 141 } : Room) s m args below meth c 4 cy D B cells9 slots9 (vx_MQ below (QX cy D B (Sum.map (fun x => some (Value.int x)) id res) σ μ ω) (XCX cy D B (Sum.map (fun x => some (Value.int x)) id res) σ μ ω) args s 2 12 (aB B)) pc9 lcs9 [] σ μ ω := fun k9 hx9 cells9 slots9 pc9 lcs9 ht h1 h2 => by
    rw [hx9]
    rcases ht with ht | ht | ht
    · exact x_throwS C hlf ht htab (Nat.le_of_ble_eq_true rfl) (Nat.le_of_ble_eq_true rfl) h1 h2 hlk h1 h2
    · exact x_throwSW C hlf ht htab (Nat.le_of_ble_eq_true rfl) (Nat.le_of_ble_eq_true rfl) h1 h2 hlk h1 h2
    · exact x_throwN C hlf ht htab (Nat.le_of_ble_eq_true rfl) (Nat.le_of_ble_eq_true rfl) h1 h2 hlk h1 h2
  have hout : ∀ (k9 : Nat), res = .inr k9 → ∀ (cells9 slots9 pc9 : Nat) (lcs9 : List (Nat × Value)) (st9 : List Value), cells9 ≤ 2 → slots9 ≤ 12 → XO p l e ({ frames := 7, cells := 2, slots := 12, locals := 141 } : Room) s m args below meth c 4 cy D B cells9 slots9 (vx_MQ below (QX cy D B (Sum.map (fun x => some (Value.int x)) id res) σ μ ω) (XCX cy D B (Sum.map (fun x => some (Value.int x)) id res) σ μ ω) args s 2 12 (aB B)) pc9 lcs9 st9 σ μ ω k9 := fun k9 hx9 cells9 slots9 pc9 lcs9 st9 h1 h2 => by rw [hx9]; exact x_out C htab hlk h1 h2
  generalize (vx_MQ below (QX cy D B (Sum.map (fun x => some (Value.int x)) id res) σ μ ω) (XCX cy D B (Sum.map (fun x => some (Value.int x)) id res) σ μ ω) args s 2 12 (aB B)) = Q at hret hthr hout ⊢
  obtain ⟨R, hR9⟩ : ∃ R : Room, R = ({ frames := 7, cells := 2, slots := 12, locals := 141 } : Room) := ⟨_, rfl⟩
  rw [← hR9] at hret hthr hout ⊢
  unfold fX5_room at h
  show X p l e R s m args below meth c 4 cy D B 0 0 Q 0 [(0, .ref (B + oHB)), (1, .int p1), (2, .int p2)] [] σ μ ω
  refine x_aload_n C dX5_room_0 rfl 0 rfl ?_
  refine x_iload_n C dX5_room_1 rfl 1 rfl ?_
  obtain ⟨q1, hk1, h⟩ := Option.bind_eq_some_iff.mp h
  refine x_callVX C (As := [.int p1]) (rest := []) (cells2 := 1) (slots2 := 6) (lw_g_mk tw_760 rfl) (lw_g_mk tsel_3 rfl) (c_HB) (C1 := "HostelBeds") (T := TX5) (N := 12) (ci := 5) rfl (okX5_checkRoom l hlf cy D B ek p1 σ μ ω _ hk1) rfl rfl (by rw [hR9]; decide) (lw_g_mk tw_761 rfl) (lw_g_mk tw_1 rfl) (by decide) rfl (lw_g_mk tw_758 rfl) rfl (Nat.le_of_ble_eq_true rfl) dX5_room_2 (by rw [hR9]; decide) rfl rfl (fun v2 hv3 => ?_) (fun k4 hv5 => ?_)
  · rcases q1 with x2 | e3
    · rw [Sum.elim_inl] at h
      have hv3 : (Sum.inl (none) : Option Value ⊕ Nat) = .inl v2 := hv3
      cases hv3
      refine x_aload_n C dX5_room_5 rfl 0 rfl ?_
      refine x_get C (C1 := "HostelBeds") (T := TX5) (N := 12) (ci := 5) inXg5 _ (c_HB) rfl 2 (by decide) (lw_g_mk tw_289 rfl) rfl dX5_room_6 ?_
      obtain ⟨hg7, h⟩ := gd_some h
      refine x_get C (C1 := "HostelBeds$Hostel") (T := TX1) (N := 12) (ci := 1) inXg1 _ (c_Ho hg7) rfl 0 (by decide) (lw_g_mk tw_185 rfl) rfl dX5_room_9 ?_
      refine x_iload_n C dX5_room_12 rfl 1 rfl ?_
      obtain ⟨hg8, h⟩ := gd_some h
      refine x_aldq C _ 5 (C1 := "HostelBeds$Room") (c_Rms hg7) rfl hg8 rfl dX5_room_13 ?_
      refine x_astore_n C [(3, .ref (B + oRm (rP σ 0) p1.toNatClampNeg)), (0, .ref (B + oHB)), (1, .int p1), (2, .int p2)] dX5_room_14 rfl (by decide) rfl ?_
      refine x_iload_n C dX5_room_15 rfl 3 rfl ?_
      by_cases hc9 : p2 = 0
      · rw [if_pos hc9] at h
        refine x_tableIn C (tgt := 48) dX5_room_16 (by rw [hc9]; decide) (by rw [hc9]; decide) (by first | (rw [hc9]; done) | (rw [hc9]; rfl)) (by decide) ?_
        refine x_aload_n C dX5_room_48 rfl 0 rfl ?_
        refine x_get C (C1 := "HostelBeds$Room") (T := TX4) (N := 5) (ci := 4) inXg4 _ (c_Rm hg7 (inb_lt hg8)) rfl 1 (by decide) (lw_g_mk tw_80 rfl) rfl dX5_room_49 ?_
        cases h
        exact hret _ rfl _ _ _ _ dX5_room_52 rfl (by decide) (by decide)
      rw [if_neg hc9] at h
      by_cases hc10 : p2 = 1
      · rw [if_pos hc10] at h
        refine x_tableIn C (tgt := 53) dX5_room_16 (by rw [hc10]; decide) (by rw [hc10]; decide) (by first | (rw [hc10]; done) | (rw [hc10]; rfl)) (by decide) ?_
        refine x_aload_n C dX5_room_53 rfl 0 rfl ?_
        refine x_get C (C1 := "HostelBeds$Room") (T := TX4) (N := 5) (ci := 4) inXg4 _ (c_Rm hg7 (inb_lt hg8)) rfl 2 (by decide) (lw_g_mk tw_84 rfl) rfl dX5_room_54 ?_
        cases h
        exact hret _ rfl _ _ _ _ dX5_room_57 rfl (by decide) (by decide)
      rw [if_neg hc10] at h
      by_cases hc11 : p2 = 2
      · rw [if_pos hc11] at h
        refine x_tableIn C (tgt := 58) dX5_room_16 (by rw [hc11]; decide) (by rw [hc11]; decide) (by first | (rw [hc11]; done) | (rw [hc11]; rfl)) (by decide) ?_
        refine x_aload_n C dX5_room_58 rfl 0 rfl ?_
        refine x_get C (C1 := "HostelBeds$Room") (T := TX4) (N := 5) (ci := 4) inXg4 _ (c_Rm hg7 (inb_lt hg8)) rfl 3 (by decide) (lw_g_mk tw_88 rfl) rfl dX5_room_59 ?_
        cases h
        exact hret _ rfl _ _ _ _ dX5_room_62 rfl (by decide) (by decide)
      rw [if_neg hc11] at h
      by_cases hc12 : p2 = 3
      · rw [if_pos hc12] at h
        refine x_tableIn C (tgt := 63) dX5_room_16 (by rw [hc12]; decide) (by rw [hc12]; decide) (by first | (rw [hc12]; done) | (rw [hc12]; rfl)) (by decide) ?_
        refine x_aload_n C dX5_room_63 rfl 0 rfl ?_
        refine x_get C (C1 := "HostelBeds$Room") (T := TX4) (N := 5) (ci := 4) inXg4 _ (c_Rm hg7 (inb_lt hg8)) rfl 4 (by decide) (lw_g_mk tw_92 rfl) rfl dX5_room_64 ?_
        cases h
        exact hret _ rfl _ _ _ _ dX5_room_67 rfl (by decide) (by decide)
      rw [if_neg hc12] at h
      refine x_tableOut C (tgt := 68) dX5_room_16 (by have := lv_neT hc9 (a := 0) (by decide); have := lv_neT hc10 (a := 1) (by decide); have := lv_neT hc11 (a := 2) (by decide); have := lv_neT hc12 (a := 3) (by decide); omega) (by decide) ?_
      cases h
      exact hthr _ rfl _ _ _ _ (Or.inl ⟨66, 134, 70, "no such number of a room", dX5_room_68, dX5_room_71, dX5_room_72, dX5_room_74, dX5_room_77, lw_g_mk tw_557 rfl, lw_g_mk tw_12 rfl, (by decide +kernel), (by decide +kernel), (by decide +kernel), hat_2, hgood_2⟩) (by decide) (by decide)
    · cases hv3
  · rcases q1 with x2 | e3
    · cases hv5
    · rw [Sum.elim_inr] at h
      have hv5 : (Sum.inr e3 : Option Value ⊕ Nat) = .inr k4 := hv5
      cases hv5
      cases h
      exact hout _ rfl _ _ _ _ _ (by decide) (by decide)
def jX5_checkBooking_15 : Option ((Unit ⊕ Nat)) := (some (.inr 3))
def fX5_checkBooking (p1 : Int32) (σ : Mem) : Option ((Unit ⊕ Nat)) := (if p1 < 0 then (jX5_checkBooking_15) else (gd (rP σ 0 < 12) (if p1 < (rI σ 22 (rP σ 0) 0) then (some (.inl ())) else (jX5_checkBooking_15))))
set_option maxHeartbeats 4000000 in
set_option maxRecDepth 100000 in
theorem okX5_checkBooking (l : Launch) (hlf : l.stackTraces = false) (cy : Nat → ClassId) (D : va_G) (B : Nat) (ek : EK) (p1 : Int32) (σ μ ω : Mem) (res : (Unit ⊕ Nat)) (h : fX5_checkBooking p1 σ = some res) : CTX l cy D B ek yX5_checkBooking cX5_checkBooking 2 none ({ frames := 6, cells := 1, slots := 6, locals := 120 } : Room) 1 6 [.ref (B + oHB), .int p1] σ μ ω (Sum.map (fun _ => (none : Option Value)) id res) σ μ ω := by
  refine met_XX (own := "HostelBeds") (by decide) rfl (Nat.le_of_ble_eq_true rfl) ?_
  intro p e s m args below meth c C hrT hlk htab
  have hret : ∀ (x9 : Unit), res = .inl x9 → ∀ (cells9 slots9 pc9 : Nat) (lcs9 : List (Nat × Value)), decode cX5_checkBooking pc9 = .ok (.return_, 1) → cells9 ≤ 1 → slots9 ≤ 6 → X p l e ({ frames := 6, cells := 1, slots := 6, locals := 120 } : Room) s m args below meth c 2 cy D B cells9 slots9 (vx_MQ below (QX cy D B (Sum.map (fun _ => (none : Option Value)) id res) σ μ ω) (XCX cy D B (Sum.map (fun _ => (none : Option Value)) id res) σ μ ω) args s 1 6 (aB B)) pc9 lcs9 [] σ μ ω := fun x9 hx9 cells9 slots9 pc9 lcs9 hd h1 h2 => by rw [hx9]; exact x_vretX C hrT hlk hd h1 h2
  have hthr : ∀ (k9 : Nat), res = .inr k9 → ∀ (cells9 slots9 pc9 : Nat) (lcs9 : List (Nat × Value)), (ThrowS "HostelBeds" cX5_checkBooking pc9 k9 ∨ ThrowSW "HostelBeds" cX5_checkBooking pc9 k9 ∨ ThrowN "HostelBeds" cX5_checkBooking pc9 k9) → cells9 + 1 ≤ 1 → slots9 + 6 ≤ 6 → X p l e ({ frames := 6, cells := 1, slots := 6, locals := 120 } : Room) s m args below meth c 2 cy D B cells9 slots9 (vx_MQ below (QX cy D B (Sum.map (fun _ => (none : Option Value)) id res) σ μ ω) (XCX cy D B (Sum.map (fun _ => (none : Option Value)) id res) σ μ ω) args s 1 6 (aB B)) pc9 lcs9 [] σ μ ω := fun k9 hx9 cells9 slots9 pc9 lcs9 ht h1 h2 => by
    rw [hx9]
    rcases ht with ht | ht | ht
    · exact x_throwS C hlf ht htab (Nat.le_of_ble_eq_true rfl) (Nat.le_of_ble_eq_true rfl) h1 h2 hlk h1 h2
    · exact x_throwSW C hlf ht htab (Nat.le_of_ble_eq_true rfl) (Nat.le_of_ble_eq_true rfl) h1 h2 hlk h1 h2
    · exact x_throwN C hlf ht htab (Nat.le_of_ble_eq_true rfl) (Nat.le_of_ble_eq_true rfl) h1 h2 hlk h1 h2
  have hout : ∀ (k9 : Nat), res = .inr k9 → ∀ (cells9 slots9 pc9 : Nat) (lcs9 : List (Nat × Value)) (st9 : List Value), cells9 ≤ 1 → slots9 ≤ 6 → XO p l e ({ frames := 6, cells := 1, slots := 6, locals := 120 } : Room) s m args below meth c 2 cy D B cells9 slots9 (vx_MQ below (QX cy D B (Sum.map (fun _ => (none : Option Value)) id res) σ μ ω) (XCX cy D B (Sum.map (fun _ => (none : Option Value)) id res) σ μ ω) args s 1 6 (aB B)) pc9 lcs9 st9 σ μ ω k9 := fun k9 hx9 cells9 slots9 pc9 lcs9 st9 h1 h2 => by rw [hx9]; exact x_out C htab hlk h1 h2
  generalize (vx_MQ below (QX cy D B (Sum.map (fun _ => (none : Option Value)) id res) σ μ ω) (XCX cy D B (Sum.map (fun _ => (none : Option Value)) id res) σ μ ω) args s 1 6 (aB B)) = Q at hret hthr hout ⊢
  obtain ⟨R, hR9⟩ : ∃ R : Room, R = ({ frames := 6, cells := 1, slots := 6, locals := 120 } : Room) := ⟨_, rfl⟩
  rw [← hR9] at hret hthr hout ⊢
  unfold fX5_checkBooking at h
  show X p l e R s m args below meth c 2 cy D B 0 0 Q 0 [(0, .ref (B + oHB)), (1, .int p1)] [] σ μ ω
  refine x_iload_n C dX5_checkBooking_0 rfl 1 rfl ?_
  have hJ1 : ∀ (r9 : (Unit ⊕ Nat)), jX5_checkBooking_15 = some r9 → (∀ (x9 : Unit), r9 = .inl x9 → ∀ (cells9 slots9 pc9 : Nat) (lcs9 : List (Nat × Value)), decode cX5_checkBooking pc9 = .ok (.return_, 1) → cells9 ≤ 1 → slots9 ≤ 6 → X p l e R s m args below meth c 2 cy D B cells9 slots9 Q pc9 lcs9 [] σ μ ω) → (∀ (k9 : Nat), r9 = .inr k9 → ∀ (cells9 slots9 pc9 : Nat) (lcs9 : List (Nat × Value)), (ThrowS "HostelBeds" cX5_checkBooking pc9 k9 ∨ ThrowSW "HostelBeds" cX5_checkBooking pc9 k9 ∨ ThrowN "HostelBeds" cX5_checkBooking pc9 k9) → cells9 + 1 ≤ 1 → slots9 + 6 ≤ 6 → X p l e R s m args below meth c 2 cy D B cells9 slots9 Q pc9 lcs9 [] σ μ ω) → (∀ (k9 : Nat), r9 = .inr k9 → ∀ (cells9 slots9 pc9 : Nat) (lcs9 : List (Nat × Value)) (st9 : List Value), cells9 ≤ 1 → slots9 ≤ 6 → XO p l e R s m args below meth c 2 cy D B cells9 slots9 Q pc9 lcs9 st9 σ μ ω k9) → X p l e R s m args below meth c 2 cy D B 0 0 Q 15 [] [] σ μ ω := by
    intro res9 h hret hthr hout
    unfold jX5_checkBooking_15 at h
    cases h
    exact hthr _ rfl _ _ _ _ (Or.inr (Or.inl ⟨192, 354, 196, "no such booking", dX5_checkBooking_15, dX5_checkBooking_18, dX5_checkBooking_19, dX5_checkBooking_22, dX5_checkBooking_25, lw_g_mk tw_762 rfl, lw_g_mk tw_19 rfl, (by decide +kernel), (by decide +kernel), (by decide +kernel), hat_3, hgood_3⟩)) (by decide) (by decide)
  refine x_if_lt C (tgt := 15) dX5_checkBooking_1 (by decide) (fun hc2 => ?_) (fun hc2 => ?_)
  · rw [if_pos hc2] at h
    refine x_sub [] rfl ?_
    exact hJ1 _ h hret hthr hout
  · rw [if_neg hc2] at h
    refine x_iload_n C dX5_checkBooking_4 rfl 1 rfl ?_
    refine x_aload_n C dX5_checkBooking_5 rfl 0 rfl ?_
    refine x_get C (C1 := "HostelBeds") (T := TX5) (N := 12) (ci := 5) inXg5 _ (c_HB) rfl 2 (by decide) (lw_g_mk tw_289 rfl) rfl dX5_checkBooking_6 ?_
    obtain ⟨hg3, h⟩ := gd_some h
    refine x_get C (C1 := "HostelBeds$Hostel") (T := TX1) (N := 12) (ci := 1) inXg1 _ (c_Ho hg3) rfl 4 (by decide) (lw_g_mk tw_200 rfl) rfl dX5_checkBooking_9 ?_
    refine x_icmp_lt C (tgt := 26) dX5_checkBooking_12 (by decide) (fun hc4 => ?_) (fun hc4 => ?_)
    · rw [if_pos hc4] at h
      cases h
      exact hret _ rfl _ _ _ _ dX5_checkBooking_26 (by decide) (by decide)
    · rw [if_neg hc4] at h
      refine x_sub [] rfl ?_
      exact hJ1 _ h hret hthr hout
def fX5_booking (p1 : Int32) (p2 : Int32) (σ : Mem) : Option ((Int32 ⊕ Nat)) := ((fX5_checkBooking p1 σ).bind fun q1 => Sum.elim (fun x2 => (gd (rP σ 0 < 12) (gd (inb p1 17) (if p2 = (0 : Int32) then (some (.inl (rI σ 40 (rP σ 0) p1.toNatClampNeg))) else (if p2 = (1 : Int32) then (some (.inl (rI σ 41 (rP σ 0) p1.toNatClampNeg))) else (if p2 = (2 : Int32) then (some (.inl (rI σ 42 (rP σ 0) p1.toNatClampNeg))) else (if p2 = (3 : Int32) then (some (.inl (rI σ 43 (rP σ 0) p1.toNatClampNeg))) else (if p2 = (4 : Int32) then (some (.inl (rI σ 45 (rP σ 0) p1.toNatClampNeg))) else (if p2 = (5 : Int32) then (some (.inl (rI σ 46 (rP σ 0) p1.toNatClampNeg))) else (if p2 = (6 : Int32) then (if (rI σ 47 (rP σ 0) p1.toNatClampNeg) = 0 then (some (.inl (0 : Int32))) else (some (.inl (1 : Int32)))) else (if p2 = (7 : Int32) then (if (rI σ 48 (rP σ 0) p1.toNatClampNeg) = 0 then (some (.inl (0 : Int32))) else (some (.inl (1 : Int32)))) else (some (.inr 2))))))))))))) (fun e3 => (some (.inr e3))) q1)
set_option maxHeartbeats 4000000 in
set_option maxRecDepth 100000 in
theorem okX5_booking (l : Launch) (hlf : l.stackTraces = false) (cy : Nat → ClassId) (D : va_G) (B : Nat) (ek : EK) (p1 : Int32) (p2 : Int32) (σ μ ω : Mem) (res : (Int32 ⊕ Nat)) (h : fX5_booking p1 p2 σ = some res) : CTX l cy D B ek yX5_booking cX5_booking 4 (some .int) ({ frames := 7, cells := 2, slots := 12, locals := 141 } : Room) 2 12 [.ref (B + oHB), .int p1, .int p2] σ μ ω (Sum.map (fun x => some (Value.int x)) id res) σ μ ω := by
  refine met_XX (own := "HostelBeds") (by decide) rfl (Nat.le_of_ble_eq_true rfl) ?_
  intro p e s m args below meth c C hrT hlk htab
  have hret : ∀ (x9 : Int32), res = .inl x9 → ∀ (cells9 slots9 pc9 : Nat) (lcs9 : List (Nat × Value)), decode cX5_booking pc9 = .ok (.ireturn, 1) → narrow .int (.int x9) = .int x9 → cells9 ≤ 2 → slots9 ≤ 12 → X p l e ({ frames := 7, cells := 2, slots := 12, locals := 141 } : Room) s m args below meth c 4 cy D B cells9 slots9 (vx_MQ below (QX cy D B (Sum.map (fun x => some (Value.int x)) id res) σ μ ω) (XCX cy D B (Sum.map (fun x => some (Value.int x)) id res) σ μ ω) args s 2 12 (aB B)) pc9 lcs9 [.int x9] σ μ ω := fun x9 hx9 cells9 slots9 pc9 lcs9 hd hn h1 h2 => by rw [hx9]; exact x_zretX C hrT hlk hn hd h1 h2
  have hthr : ∀ (k9 : Nat), res = .inr k9 → ∀ (cells9 slots9 pc9 : Nat) (lcs9 : List (Nat × Value)), (ThrowS "HostelBeds" cX5_booking pc9 k9 ∨ ThrowSW "HostelBeds" cX5_booking pc9 k9 ∨ ThrowN "HostelBeds" cX5_booking pc9 k9) → cells9 + 1 ≤ 2 → slots9 + 6 ≤ 12 → X p l e ({ frames := 7, cells := 2, slots := 12, locals := 141 } : Room) s m args below meth c 4 cy D B cells9 slots9 (vx_MQ below (QX cy D B (Sum.map (fun x => some (Value.int x)) id res) σ μ ω) (XCX cy D B (Sum.map (fun x => some (Value.int x)) id res) σ μ ω) args s 2 12 (aB B)) pc9 lcs9 [] σ μ ω := fun k9 hx9 cells9 slots9 pc9 lcs9 ht h1 h2 => by
    rw [hx9]
    rcases ht with ht | ht | ht
    · exact x_throwS C hlf ht htab (Nat.le_of_ble_eq_true rfl) (Nat.le_of_ble_eq_true rfl) h1 h2 hlk h1 h2
    · exact x_throwSW C hlf ht htab (Nat.le_of_ble_eq_true rfl) (Nat.le_of_ble_eq_true rfl) h1 h2 hlk h1 h2
    · exact x_throwN C hlf ht htab (Nat.le_of_ble_eq_true rfl) (Nat.le_of_ble_eq_true rfl) h1 h2 hlk h1 h2
  have hout : ∀ (k9 : Nat), res = .inr k9 → ∀ (cells9 slots9 pc9 : Nat) (lcs9 : List (Nat × Value)) (st9 : List Value), cells9 ≤ 2 → slots9 ≤ 12 → XO p l e ({ frames := 7, cells := 2, slots := 12, locals := 141 } : Room) s m args below meth c 4 cy D B cells9 slots9 (vx_MQ below (QX cy D B (Sum.map (fun x => some (Value.int x)) id res) σ μ ω) (XCX cy D B (Sum.map (fun x => some (Value.int x)) id res) σ μ ω) args s 2 12 (aB B)) pc9 lcs9 st9 σ μ ω k9 := fun k9 hx9 cells9 slots9 pc9 lcs9 st9 h1 h2 => by rw [hx9]; exact x_out C htab hlk h1 h2
  generalize (vx_MQ below (QX cy D B (Sum.map (fun x => some (Value.int x)) id res) σ μ ω) (XCX cy D B (Sum.map (fun x => some (Value.int x)) id res) σ μ ω) args s 2 12 (aB B)) = Q at hret hthr hout ⊢
  obtain ⟨R, hR9⟩ : ∃ R : Room, R = ({ frames := 7, cells := 2, slots := 12, locals := 141 } : Room) := ⟨_, rfl⟩
  rw [← hR9] at hret hthr hout ⊢
  unfold fX5_booking at h
  show X p l e R s m args below meth c 4 cy D B 0 0 Q 0 [(0, .ref (B + oHB)), (1, .int p1), (2, .int p2)] [] σ μ ω
  refine x_aload_n C dX5_booking_0 rfl 0 rfl ?_
  refine x_iload_n C dX5_booking_1 rfl 1 rfl ?_
  obtain ⟨q1, hk1, h⟩ := Option.bind_eq_some_iff.mp h
  refine x_callVX C (As := [.int p1]) (rest := []) (cells2 := 1) (slots2 := 6) (lw_g_mk tw_788 rfl) (lw_g_mk tsel_4 rfl) (c_HB) (C1 := "HostelBeds") (T := TX5) (N := 12) (ci := 5) rfl (okX5_checkBooking l hlf cy D B ek p1 σ μ ω _ hk1) rfl rfl (by rw [hR9]; decide) (lw_g_mk tw_789 rfl) (lw_g_mk tw_1 rfl) (by decide) rfl (lw_g_mk tw_786 rfl) rfl (Nat.le_of_ble_eq_true rfl) dX5_booking_2 (by rw [hR9]; decide) rfl rfl (fun v2 hv3 => ?_) (fun k4 hv5 => ?_)
  · rcases q1 with x2 | e3
    · rw [Sum.elim_inl] at h
      have hv3 : (Sum.inl (none) : Option Value ⊕ Nat) = .inl v2 := hv3
      cases hv3
      refine x_aload_n C dX5_booking_5 rfl 0 rfl ?_
      refine x_get C (C1 := "HostelBeds") (T := TX5) (N := 12) (ci := 5) inXg5 _ (c_HB) rfl 2 (by decide) (lw_g_mk tw_289 rfl) rfl dX5_booking_6 ?_
      obtain ⟨hg7, h⟩ := gd_some h
      refine x_get C (C1 := "HostelBeds$Hostel") (T := TX1) (N := 12) (ci := 1) inXg1 _ (c_Ho hg7) rfl 3 (by decide) (lw_g_mk tw_197 rfl) rfl dX5_booking_9 ?_
      refine x_iload_n C dX5_booking_12 rfl 1 rfl ?_
      obtain ⟨hg8, h⟩ := gd_some h
      refine x_aldq C _ 6 (C1 := "HostelBeds$Booking") (c_Bks hg7) rfl hg8 rfl dX5_booking_13 ?_
      refine x_astore_n C [(3, .ref (B + oBk (rP σ 0) p1.toNatClampNeg)), (0, .ref (B + oHB)), (1, .int p1), (2, .int p2)] dX5_booking_14 rfl (by decide) rfl ?_
      refine x_iload_n C dX5_booking_15 rfl 3 rfl ?_
      by_cases hc9 : p2 = 0
      · rw [if_pos hc9] at h
        refine x_tableIn C (tgt := 64) dX5_booking_16 (by rw [hc9]; decide) (by rw [hc9]; decide) (by first | (rw [hc9]; done) | (rw [hc9]; rfl)) (by decide) ?_
        refine x_aload_n C dX5_booking_64 rfl 0 rfl ?_
        refine x_get C (C1 := "HostelBeds$Booking") (T := TX0) (N := 11) (ci := 0) inXg0 _ (c_Bk hg7 (inb_lt hg8)) rfl 1 (by decide) (lw_g_mk tw_117 rfl) rfl dX5_booking_65 ?_
        cases h
        exact hret _ rfl _ _ _ _ dX5_booking_68 rfl (by decide) (by decide)
      rw [if_neg hc9] at h
      by_cases hc10 : p2 = 1
      · rw [if_pos hc10] at h
        refine x_tableIn C (tgt := 69) dX5_booking_16 (by rw [hc10]; decide) (by rw [hc10]; decide) (by first | (rw [hc10]; done) | (rw [hc10]; rfl)) (by decide) ?_
        refine x_aload_n C dX5_booking_69 rfl 0 rfl ?_
        refine x_get C (C1 := "HostelBeds$Booking") (T := TX0) (N := 11) (ci := 0) inXg0 _ (c_Bk hg7 (inb_lt hg8)) rfl 2 (by decide) (lw_g_mk tw_120 rfl) rfl dX5_booking_70 ?_
        cases h
        exact hret _ rfl _ _ _ _ dX5_booking_73 rfl (by decide) (by decide)
      rw [if_neg hc10] at h
      by_cases hc11 : p2 = 2
      · rw [if_pos hc11] at h
        refine x_tableIn C (tgt := 74) dX5_booking_16 (by rw [hc11]; decide) (by rw [hc11]; decide) (by first | (rw [hc11]; done) | (rw [hc11]; rfl)) (by decide) ?_
        refine x_aload_n C dX5_booking_74 rfl 0 rfl ?_
        refine x_get C (C1 := "HostelBeds$Booking") (T := TX0) (N := 11) (ci := 0) inXg0 _ (c_Bk hg7 (inb_lt hg8)) rfl 3 (by decide) (lw_g_mk tw_125 rfl) rfl dX5_booking_75 ?_
        cases h
        exact hret _ rfl _ _ _ _ dX5_booking_78 rfl (by decide) (by decide)
      rw [if_neg hc11] at h
      by_cases hc12 : p2 = 3
      · rw [if_pos hc12] at h
        refine x_tableIn C (tgt := 79) dX5_booking_16 (by rw [hc12]; decide) (by rw [hc12]; decide) (by first | (rw [hc12]; done) | (rw [hc12]; rfl)) (by decide) ?_
        refine x_aload_n C dX5_booking_79 rfl 0 rfl ?_
        refine x_get C (C1 := "HostelBeds$Booking") (T := TX0) (N := 11) (ci := 0) inXg0 _ (c_Bk hg7 (inb_lt hg8)) rfl 4 (by decide) (lw_g_mk tw_129 rfl) rfl dX5_booking_80 ?_
        cases h
        exact hret _ rfl _ _ _ _ dX5_booking_83 rfl (by decide) (by decide)
      rw [if_neg hc12] at h
      by_cases hc13 : p2 = 4
      · rw [if_pos hc13] at h
        refine x_tableIn C (tgt := 84) dX5_booking_16 (by rw [hc13]; decide) (by rw [hc13]; decide) (by first | (rw [hc13]; done) | (rw [hc13]; rfl)) (by decide) ?_
        refine x_aload_n C dX5_booking_84 rfl 0 rfl ?_
        refine x_get C (C1 := "HostelBeds$Booking") (T := TX0) (N := 11) (ci := 0) inXg0 _ (c_Bk hg7 (inb_lt hg8)) rfl 6 (by decide) (lw_g_mk tw_136 rfl) rfl dX5_booking_85 ?_
        cases h
        exact hret _ rfl _ _ _ _ dX5_booking_88 rfl (by decide) (by decide)
      rw [if_neg hc13] at h
      by_cases hc14 : p2 = 5
      · rw [if_pos hc14] at h
        refine x_tableIn C (tgt := 89) dX5_booking_16 (by rw [hc14]; decide) (by rw [hc14]; decide) (by first | (rw [hc14]; done) | (rw [hc14]; rfl)) (by decide) ?_
        refine x_aload_n C dX5_booking_89 rfl 0 rfl ?_
        refine x_get C (C1 := "HostelBeds$Booking") (T := TX0) (N := 11) (ci := 0) inXg0 _ (c_Bk hg7 (inb_lt hg8)) rfl 7 (by decide) (lw_g_mk tw_139 rfl) rfl dX5_booking_90 ?_
        cases h
        exact hret _ rfl _ _ _ _ dX5_booking_93 rfl (by decide) (by decide)
      rw [if_neg hc14] at h
      by_cases hc15 : p2 = 6
      · rw [if_pos hc15] at h
        refine x_tableIn C (tgt := 94) dX5_booking_16 (by rw [hc15]; decide) (by rw [hc15]; decide) (by first | (rw [hc15]; done) | (rw [hc15]; rfl)) (by decide) ?_
        refine x_aload_n C dX5_booking_94 rfl 0 rfl ?_
        refine x_get C (C1 := "HostelBeds$Booking") (T := TX0) (N := 11) (ci := 0) inXg0 _ (c_Bk hg7 (inb_lt hg8)) rfl 8 (by decide) (lw_g_mk tw_142 rfl) rfl dX5_booking_95 ?_
        refine x_if_eq C (tgt := 105) dX5_booking_98 (by decide) (fun hc16 => ?_) (fun hc16 => ?_)
        · rw [if_pos hc16] at h
          refine x_iconst C (v := 0) dX5_booking_105 (by decide) ?_
          cases h
          exact hret _ rfl _ _ _ _ dX5_booking_106 rfl (by decide) (by decide)
        · rw [if_neg hc16] at h
          refine x_iconst C (v := 1) dX5_booking_101 (by decide) ?_
          refine x_goto C (tgt := 106) dX5_booking_102 (by decide) ?_
          cases h
          exact hret _ rfl _ _ _ _ dX5_booking_106 rfl (by decide) (by decide)
      rw [if_neg hc15] at h
      by_cases hc17 : p2 = 7
      · rw [if_pos hc17] at h
        refine x_tableIn C (tgt := 107) dX5_booking_16 (by rw [hc17]; decide) (by rw [hc17]; decide) (by first | (rw [hc17]; done) | (rw [hc17]; rfl)) (by decide) ?_
        refine x_aload_n C dX5_booking_107 rfl 0 rfl ?_
        refine x_get C (C1 := "HostelBeds$Booking") (T := TX0) (N := 11) (ci := 0) inXg0 _ (c_Bk hg7 (inb_lt hg8)) rfl 9 (by decide) (lw_g_mk tw_146 rfl) rfl dX5_booking_108 ?_
        refine x_if_eq C (tgt := 118) dX5_booking_111 (by decide) (fun hc18 => ?_) (fun hc18 => ?_)
        · rw [if_pos hc18] at h
          refine x_iconst C (v := 0) dX5_booking_118 (by decide) ?_
          cases h
          exact hret _ rfl _ _ _ _ dX5_booking_119 rfl (by decide) (by decide)
        · rw [if_neg hc18] at h
          refine x_iconst C (v := 1) dX5_booking_114 (by decide) ?_
          refine x_goto C (tgt := 119) dX5_booking_115 (by decide) ?_
          cases h
          exact hret _ rfl _ _ _ _ dX5_booking_119 rfl (by decide) (by decide)
      rw [if_neg hc17] at h
      refine x_tableOut C (tgt := 120) dX5_booking_16 (by have := lv_neT hc9 (a := 0) (by decide); have := lv_neT hc10 (a := 1) (by decide); have := lv_neT hc11 (a := 2) (by decide); have := lv_neT hc12 (a := 3) (by decide); have := lv_neT hc13 (a := 4) (by decide); have := lv_neT hc14 (a := 5) (by decide); have := lv_neT hc15 (a := 6) (by decide); have := lv_neT hc17 (a := 7) (by decide); omega) (by decide) ?_
      cases h
      exact hthr _ rfl _ _ _ _ (Or.inl ⟨66, 168, 70, "no such number of a booking", dX5_booking_120, dX5_booking_123, dX5_booking_124, dX5_booking_126, dX5_booking_129, lw_g_mk tw_557 rfl, lw_g_mk tw_12 rfl, (by decide +kernel), (by decide +kernel), (by decide +kernel), hat_2, hgood_2⟩) (by decide) (by decide)
    · cases hv3
  · rcases q1 with x2 | e3
    · cases hv5
    · rw [Sum.elim_inr] at h
      have hv5 : (Sum.inr e3 : Option Value ⊕ Nat) = .inr k4 := hv5
      cases hv5
      cases h
      exact hout _ rfl _ _ _ _ _ (by decide) (by decide)
def jX5_find_31 (q1 : Int64 × Mem) (t2 : Int32) : Option ((Int32 ⊕ Nat) × Mem) := (if ¬ t2 = (-1 : Int32) then (some (.inl t2, q1.2)) else (some (.inr 4, q1.2)))
def fX5_find (p1 : Int32) (σ : Mem) : Option ((Int32 ⊕ Nat) × Mem) := ((fX2_nameOfAll σ).bind fun q1 => (if p1 = 0 then (gd (rP q1.2 0 < 12) ((fX1_bookingNamed (rP q1.2 0) q1.1 q1.2).bind fun q3 => (jX5_find_31 q1 q3))) else (gd (rP q1.2 0 < 12) ((fX1_roomNamed (rP q1.2 0) q1.1 q1.2).bind fun q4 => (jX5_find_31 q1 q4)))))
set_option maxHeartbeats 4000000 in
set_option maxRecDepth 100000 in
theorem okX5_find (l : Launch) (hlf : l.stackTraces = false) (cy : Nat → ClassId) (D : va_G) (B : Nat) (ek : EK) (p1 : Int32) (σ μ ω : Mem) (res : (Int32 ⊕ Nat) × Mem) (h : fX5_find p1 σ = some res) : CTX l cy D B ek yX5_find cX5_find 5 (some .int) ({ frames := 6, cells := 1, slots := 6, locals := 120 } : Room) 1 6 [.ref (B + oHB), .int p1] σ μ ω (Sum.map (fun x => some (Value.int x)) id res.1) res.2 μ ω := by
  refine met_XX (own := "HostelBeds") (by decide) rfl (Nat.le_of_ble_eq_true rfl) ?_
  intro p e s m args below meth c C hrT hlk htab
  have hret : ∀ (x9 : Int32), res.1 = .inl x9 → ∀ (cells9 slots9 pc9 : Nat) (lcs9 : List (Nat × Value)), decode cX5_find pc9 = .ok (.ireturn, 1) → narrow .int (.int x9) = .int x9 → cells9 ≤ 1 → slots9 ≤ 6 → X p l e ({ frames := 6, cells := 1, slots := 6, locals := 120 } : Room) s m args below meth c 5 cy D B cells9 slots9 (vx_MQ below (QX cy D B (Sum.map (fun x => some (Value.int x)) id res.1) res.2 μ ω) (XCX cy D B (Sum.map (fun x => some (Value.int x)) id res.1) res.2 μ ω) args s 1 6 (aB B)) pc9 lcs9 [.int x9] res.2 μ ω := fun x9 hx9 cells9 slots9 pc9 lcs9 hd hn h1 h2 => by rw [hx9]; exact x_zretX C hrT hlk hn hd h1 h2
  have hthr : ∀ (k9 : Nat), res.1 = .inr k9 → ∀ (cells9 slots9 pc9 : Nat) (lcs9 : List (Nat × Value)), (ThrowS "HostelBeds" cX5_find pc9 k9 ∨ ThrowSW "HostelBeds" cX5_find pc9 k9 ∨ ThrowN "HostelBeds" cX5_find pc9 k9) → cells9 + 1 ≤ 1 → slots9 + 6 ≤ 6 → X p l e ({ frames := 6, cells := 1, slots := 6, locals := 120 } : Room) s m args below meth c 5 cy D B cells9 slots9 (vx_MQ below (QX cy D B (Sum.map (fun x => some (Value.int x)) id res.1) res.2 μ ω) (XCX cy D B (Sum.map (fun x => some (Value.int x)) id res.1) res.2 μ ω) args s 1 6 (aB B)) pc9 lcs9 [] res.2 μ ω := fun k9 hx9 cells9 slots9 pc9 lcs9 ht h1 h2 => by
    rw [hx9]
    rcases ht with ht | ht | ht
    · exact x_throwS C hlf ht htab (Nat.le_of_ble_eq_true rfl) (Nat.le_of_ble_eq_true rfl) h1 h2 hlk h1 h2
    · exact x_throwSW C hlf ht htab (Nat.le_of_ble_eq_true rfl) (Nat.le_of_ble_eq_true rfl) h1 h2 hlk h1 h2
    · exact x_throwN C hlf ht htab (Nat.le_of_ble_eq_true rfl) (Nat.le_of_ble_eq_true rfl) h1 h2 hlk h1 h2
  have hout : ∀ (k9 : Nat), res.1 = .inr k9 → ∀ (cells9 slots9 pc9 : Nat) (lcs9 : List (Nat × Value)) (st9 : List Value), cells9 ≤ 1 → slots9 ≤ 6 → XO p l e ({ frames := 6, cells := 1, slots := 6, locals := 120 } : Room) s m args below meth c 5 cy D B cells9 slots9 (vx_MQ below (QX cy D B (Sum.map (fun x => some (Value.int x)) id res.1) res.2 μ ω) (XCX cy D B (Sum.map (fun x => some (Value.int x)) id res.1) res.2 μ ω) args s 1 6 (aB B)) pc9 lcs9 st9 res.2 μ ω k9 := fun k9 hx9 cells9 slots9 pc9 lcs9 st9 h1 h2 => by rw [hx9]; exact x_out C htab hlk h1 h2
  generalize (vx_MQ below (QX cy D B (Sum.map (fun x => some (Value.int x)) id res.1) res.2 μ ω) (XCX cy D B (Sum.map (fun x => some (Value.int x)) id res.1) res.2 μ ω) args s 1 6 (aB B)) = Q at hret hthr hout ⊢
  obtain ⟨R, hR9⟩ : ∃ R : Room, R = ({ frames := 6, cells := 1, slots := 6, locals := 120 } : Room) := ⟨_, rfl⟩
  rw [← hR9] at hret hthr hout ⊢
  unfold fX5_find at h
  show X p l e R s m args below meth c 5 cy D B 0 0 Q 0 [(0, .ref (B + oHB)), (1, .int p1)] [] σ μ ω
  refine x_aload_n C dX5_find_0 rfl 0 rfl ?_
  refine x_get C (C1 := "HostelBeds") (T := TX5) (N := 12) (ci := 5) inXg5 _ (c_HB) rfl 0 (by decide) (lw_g_mk tw_287 rfl) rfl dX5_find_1 ?_
  obtain ⟨q1, hk1, h⟩ := Option.bind_eq_some_iff.mp h
  refine x_callV C (As := []) (rest := []) (lw_g_mk tw_801 rfl) (lw_g_mk tw_802 rfl) (c_In) (C1 := "HostelBeds$Input") (T := TX2) (N := 7) (ci := 2) rfl (okX2_nameOfAll l cy D B ek σ μ ω _ hk1) rfl rfl (by rw [hR9]; decide) (lw_g_mk tw_803 rfl) (lw_g_mk tw_2 rfl) (by decide) rfl (lw_g_mk tw_800 rfl) rfl (Nat.le_of_ble_eq_true rfl) dX5_find_4 (by rw [hR9]; decide) ?_
  refine x_lstore_n C [(2, .long q1.1), (0, .ref (B + oHB)), (1, .int p1)] dX5_find_7 rfl (by decide) rfl ?_
  refine x_iload_n C dX5_find_8 rfl 2 rfl ?_
  have hJ3 : ∀ (t2 : Int32) (r9 : (Int32 ⊕ Nat) × Mem), jX5_find_31 q1 t2 = some r9 → (∀ (x9 : Int32), r9.1 = .inl x9 → ∀ (cells9 slots9 pc9 : Nat) (lcs9 : List (Nat × Value)), decode cX5_find pc9 = .ok (.ireturn, 1) → narrow .int (.int x9) = .int x9 → cells9 ≤ 1 → slots9 ≤ 6 → X p l e R s m args below meth c 5 cy D B cells9 slots9 Q pc9 lcs9 [.int x9] r9.2 μ ω) → (∀ (k9 : Nat), r9.1 = .inr k9 → ∀ (cells9 slots9 pc9 : Nat) (lcs9 : List (Nat × Value)), (ThrowS "HostelBeds" cX5_find pc9 k9 ∨ ThrowSW "HostelBeds" cX5_find pc9 k9 ∨ ThrowN "HostelBeds" cX5_find pc9 k9) → cells9 + 1 ≤ 1 → slots9 + 6 ≤ 6 → X p l e R s m args below meth c 5 cy D B cells9 slots9 Q pc9 lcs9 [] r9.2 μ ω) → (∀ (k9 : Nat), r9.1 = .inr k9 → ∀ (cells9 slots9 pc9 : Nat) (lcs9 : List (Nat × Value)) (st9 : List Value), cells9 ≤ 1 → slots9 ≤ 6 → XO p l e R s m args below meth c 5 cy D B cells9 slots9 Q pc9 lcs9 st9 r9.2 μ ω k9) → X p l e R s m args below meth c 5 cy D B 0 0 Q 31 [] [.int t2] q1.2 μ ω := by
    intro t2 res9 h hret hthr hout
    unfold jX5_find_31 at h
    refine x_istore C [(4, .int t2)] dX5_find_31 (by decide) rfl ?_
    refine x_iload C dX5_find_33 0 rfl ?_
    refine x_iconst C (v := -1) dX5_find_35 (by decide) ?_
    refine x_icmp_ne C (tgt := 49) dX5_find_36 (by decide) (fun hc2 => ?_) (fun hc2 => ?_)
    · rw [if_pos hc2] at h
      refine x_iload C dX5_find_49 0 rfl ?_
      cases h
      exact hret _ rfl _ _ _ _ dX5_find_51 rfl (by decide) (by decide)
    · rw [if_neg hc2] at h
      cases h
      exact hthr _ rfl _ _ _ _ (Or.inr (Or.inr ⟨181, 183, 185, "nothing has this name", dX5_find_39, dX5_find_42, dX5_find_43, dX5_find_45, dX5_find_48, lw_g_mk tw_806 rfl, lw_g_mk tw_20 rfl, (by decide +kernel), rfl⟩)) (by decide) (by decide)
  refine x_if_eq C (tgt := 23) dX5_find_9 (by decide) (fun hc4 => ?_) (fun hc4 => ?_)
  · rw [if_pos hc4] at h
    refine x_aload_n C dX5_find_23 rfl 1 rfl ?_
    refine x_get C (C1 := "HostelBeds") (T := TX5) (N := 12) (ci := 5) inXg5 _ (c_HB) rfl 2 (by decide) (lw_g_mk tw_289 rfl) rfl dX5_find_24 ?_
    obtain ⟨hg5, h⟩ := gd_some h
    refine x_lload_n C dX5_find_27 rfl 0 rfl ?_
    obtain ⟨q3, hk6, h⟩ := Option.bind_eq_some_iff.mp h
    refine x_callV C (As := [.long q1.1]) (rest := []) (lw_g_mk tw_679 rfl) (lw_g_mk tw_680 rfl) (c_Ho hg5) (C1 := "HostelBeds$Hostel") (T := TX1) (N := 12) (ci := 1) rfl (okX1_bookingNamed l cy D B ek (rP q1.2 0) q1.1 q1.2 μ ω hg5 _ hk6) rfl rfl (by rw [hR9]; decide) (lw_g_mk tw_681 rfl) (lw_g_mk tw_3 rfl) (by decide) rfl (lw_g_mk tw_805 rfl) rfl (Nat.le_of_ble_eq_true rfl) dX5_find_28 (by rw [hR9]; decide) ?_
    refine x_sub [] rfl ?_
    exact hJ3 q3 _ h hret hthr hout
  · rw [if_neg hc4] at h
    refine x_aload_n C dX5_find_12 rfl 1 rfl ?_
    refine x_get C (C1 := "HostelBeds") (T := TX5) (N := 12) (ci := 5) inXg5 _ (c_HB) rfl 2 (by decide) (lw_g_mk tw_289 rfl) rfl dX5_find_13 ?_
    obtain ⟨hg7, h⟩ := gd_some h
    refine x_lload_n C dX5_find_16 rfl 0 rfl ?_
    obtain ⟨q4, hk8, h⟩ := Option.bind_eq_some_iff.mp h
    refine x_callV C (As := [.long q1.1]) (rest := []) (lw_g_mk tw_655 rfl) (lw_g_mk tw_656 rfl) (c_Ho hg7) (C1 := "HostelBeds$Hostel") (T := TX1) (N := 12) (ci := 1) rfl (okX1_roomNamed l cy D B ek (rP q1.2 0) q1.1 q1.2 μ ω hg7 _ hk8) rfl rfl (by rw [hR9]; decide) (lw_g_mk tw_657 rfl) (lw_g_mk tw_3 rfl) (by decide) rfl (lw_g_mk tw_804 rfl) rfl (Nat.le_of_ble_eq_true rfl) dX5_find_17 (by rw [hR9]; decide) ?_
    refine x_goto C (tgt := 31) dX5_find_20 (by decide) ?_
    refine x_sub [] rfl ?_
    exact hJ3 q4 _ h hret hthr hout
def fX5_state (p1 : Int32) (σ : Mem) : Option ((Int32 ⊕ Nat)) := ((fX5_checkBooking p1 σ).bind fun q1 => Sum.elim (fun x2 => (gd (rP σ 0 < 12) (gd (inb p1 17) (some (.inl (rI σ 49 (rP σ 0) p1.toNatClampNeg)))))) (fun e3 => (some (.inr e3))) q1)
set_option maxHeartbeats 4000000 in
set_option maxRecDepth 100000 in
theorem okX5_state (l : Launch) (hlf : l.stackTraces = false) (cy : Nat → ClassId) (D : va_G) (B : Nat) (ek : EK) (p1 : Int32) (σ μ ω : Mem) (res : (Int32 ⊕ Nat)) (h : fX5_state p1 σ = some res) : CTX l cy D B ek yX5_state cX5_state 2 (some .int) ({ frames := 7, cells := 1, slots := 6, locals := 141 } : Room) 1 6 [.ref (B + oHB), .int p1] σ μ ω (Sum.map (fun x => some (Value.int x)) id res) σ μ ω := by
  refine met_XX (own := "HostelBeds") (by decide) rfl (Nat.le_of_ble_eq_true rfl) ?_
  intro p e s m args below meth c C hrT hlk htab
  have hret : ∀ (x9 : Int32), res = .inl x9 → ∀ (cells9 slots9 pc9 : Nat) (lcs9 : List (Nat × Value)), decode cX5_state pc9 = .ok (.ireturn, 1) → narrow .int (.int x9) = .int x9 → cells9 ≤ 1 → slots9 ≤ 6 → X p l e ({ frames := 7, cells := 1, slots := 6, locals := 141 } : Room) s m args below meth c 2 cy D B cells9 slots9 (vx_MQ below (QX cy D B (Sum.map (fun x => some (Value.int x)) id res) σ μ ω) (XCX cy D B (Sum.map (fun x => some (Value.int x)) id res) σ μ ω) args s 1 6 (aB B)) pc9 lcs9 [.int x9] σ μ ω := fun x9 hx9 cells9 slots9 pc9 lcs9 hd hn h1 h2 => by rw [hx9]; exact x_zretX C hrT hlk hn hd h1 h2
  have hout : ∀ (k9 : Nat), res = .inr k9 → ∀ (cells9 slots9 pc9 : Nat) (lcs9 : List (Nat × Value)) (st9 : List Value), cells9 ≤ 1 → slots9 ≤ 6 → XO p l e ({ frames := 7, cells := 1, slots := 6, locals := 141 } : Room) s m args below meth c 2 cy D B cells9 slots9 (vx_MQ below (QX cy D B (Sum.map (fun x => some (Value.int x)) id res) σ μ ω) (XCX cy D B (Sum.map (fun x => some (Value.int x)) id res) σ μ ω) args s 1 6 (aB B)) pc9 lcs9 st9 σ μ ω k9 := fun k9 hx9 cells9 slots9 pc9 lcs9 st9 h1 h2 => by rw [hx9]; exact x_out C htab hlk h1 h2
  have hthr : True := trivial
  generalize (vx_MQ below (QX cy D B (Sum.map (fun x => some (Value.int x)) id res) σ μ ω) (XCX cy D B (Sum.map (fun x => some (Value.int x)) id res) σ μ ω) args s 1 6 (aB B)) = Q at hret hthr hout ⊢
  obtain ⟨R, hR9⟩ : ∃ R : Room, R = ({ frames := 7, cells := 1, slots := 6, locals := 141 } : Room) := ⟨_, rfl⟩
  rw [← hR9] at hret hout ⊢
  unfold fX5_state at h
  show X p l e R s m args below meth c 2 cy D B 0 0 Q 0 [(0, .ref (B + oHB)), (1, .int p1)] [] σ μ ω
  refine x_aload_n C dX5_state_0 rfl 0 rfl ?_
  refine x_iload_n C dX5_state_1 rfl 1 rfl ?_
  obtain ⟨q1, hk1, h⟩ := Option.bind_eq_some_iff.mp h
  refine x_callVX C (As := [.int p1]) (rest := []) (cells2 := 1) (slots2 := 6) (lw_g_mk tw_788 rfl) (lw_g_mk tsel_4 rfl) (c_HB) (C1 := "HostelBeds") (T := TX5) (N := 12) (ci := 5) rfl (okX5_checkBooking l hlf cy D B ek p1 σ μ ω _ hk1) rfl rfl (by rw [hR9]; decide) (lw_g_mk tw_789 rfl) (lw_g_mk tw_1 rfl) (by decide) rfl (lw_g_mk tw_786 rfl) rfl (Nat.le_of_ble_eq_true rfl) dX5_state_2 (by rw [hR9]; decide) rfl rfl (fun v2 hv3 => ?_) (fun k4 hv5 => ?_)
  · rcases q1 with x2 | e3
    · rw [Sum.elim_inl] at h
      have hv3 : (Sum.inl (none) : Option Value ⊕ Nat) = .inl v2 := hv3
      cases hv3
      refine x_aload_n C dX5_state_5 rfl 0 rfl ?_
      refine x_get C (C1 := "HostelBeds") (T := TX5) (N := 12) (ci := 5) inXg5 _ (c_HB) rfl 2 (by decide) (lw_g_mk tw_289 rfl) rfl dX5_state_6 ?_
      obtain ⟨hg7, h⟩ := gd_some h
      refine x_get C (C1 := "HostelBeds$Hostel") (T := TX1) (N := 12) (ci := 1) inXg1 _ (c_Ho hg7) rfl 3 (by decide) (lw_g_mk tw_197 rfl) rfl dX5_state_9 ?_
      refine x_iload_n C dX5_state_12 rfl 1 rfl ?_
      obtain ⟨hg8, h⟩ := gd_some h
      refine x_aldq C _ 6 (C1 := "HostelBeds$Booking") (c_Bks hg7) rfl hg8 rfl dX5_state_13 ?_
      refine x_get C (C1 := "HostelBeds$Booking") (T := TX0) (N := 11) (ci := 0) inXg0 _ (c_Bk hg7 (inb_lt hg8)) rfl 10 (by decide) (lw_g_mk tw_151 rfl) rfl dX5_state_14 ?_
      cases h
      exact hret _ rfl _ _ _ _ dX5_state_17 rfl (by decide) (by decide)
    · cases hv3
  · rcases q1 with x2 | e3
    · cases hv5
    · rw [Sum.elim_inr] at h
      have hv5 : (Sum.inr e3 : Option Value ⊕ Nat) = .inr k4 := hv5
      cases hv5
      cases h
      exact hout _ rfl _ _ _ _ _ (by decide) (by decide)
def jX5_waiting_15 : Option ((Int32 ⊕ Nat)) := (some (.inr 3))
def fX5_waiting (p1 : Int32) (σ : Mem) : Option ((Int32 ⊕ Nat)) := (if p1 < 0 then (jX5_waiting_15) else (gd (rP σ 0 < 12) (if p1 < (rI σ 23 (rP σ 0) 0) then (gd (inb p1 17) (some (.inl (rI σ 28 (rP σ 0) p1.toNatClampNeg)))) else (jX5_waiting_15))))
set_option maxHeartbeats 4000000 in
set_option maxRecDepth 100000 in
theorem okX5_waiting (l : Launch) (hlf : l.stackTraces = false) (cy : Nat → ClassId) (D : va_G) (B : Nat) (ek : EK) (p1 : Int32) (σ μ ω : Mem) (res : (Int32 ⊕ Nat)) (h : fX5_waiting p1 σ = some res) : CTX l cy D B ek yX5_waiting cX5_waiting 2 (some .int) ({ frames := 6, cells := 1, slots := 6, locals := 120 } : Room) 1 6 [.ref (B + oHB), .int p1] σ μ ω (Sum.map (fun x => some (Value.int x)) id res) σ μ ω := by
  refine met_XX (own := "HostelBeds") (by decide) rfl (Nat.le_of_ble_eq_true rfl) ?_
  intro p e s m args below meth c C hrT hlk htab
  have hret : ∀ (x9 : Int32), res = .inl x9 → ∀ (cells9 slots9 pc9 : Nat) (lcs9 : List (Nat × Value)), decode cX5_waiting pc9 = .ok (.ireturn, 1) → narrow .int (.int x9) = .int x9 → cells9 ≤ 1 → slots9 ≤ 6 → X p l e ({ frames := 6, cells := 1, slots := 6, locals := 120 } : Room) s m args below meth c 2 cy D B cells9 slots9 (vx_MQ below (QX cy D B (Sum.map (fun x => some (Value.int x)) id res) σ μ ω) (XCX cy D B (Sum.map (fun x => some (Value.int x)) id res) σ μ ω) args s 1 6 (aB B)) pc9 lcs9 [.int x9] σ μ ω := fun x9 hx9 cells9 slots9 pc9 lcs9 hd hn h1 h2 => by rw [hx9]; exact x_zretX C hrT hlk hn hd h1 h2
  have hthr : ∀ (k9 : Nat), res = .inr k9 → ∀ (cells9 slots9 pc9 : Nat) (lcs9 : List (Nat × Value)), (ThrowS "HostelBeds" cX5_waiting pc9 k9 ∨ ThrowSW "HostelBeds" cX5_waiting pc9 k9 ∨ ThrowN "HostelBeds" cX5_waiting pc9 k9) → cells9 + 1 ≤ 1 → slots9 + 6 ≤ 6 → X p l e ({ frames := 6, cells := 1, slots := 6, locals := 120 } : Room) s m args below meth c 2 cy D B cells9 slots9 (vx_MQ below (QX cy D B (Sum.map (fun x => some (Value.int x)) id res) σ μ ω) (XCX cy D B (Sum.map (fun x => some (Value.int x)) id res) σ μ ω) args s 1 6 (aB B)) pc9 lcs9 [] σ μ ω := fun k9 hx9 cells9 slots9 pc9 lcs9 ht h1 h2 => by
    rw [hx9]
    rcases ht with ht | ht | ht
    · exact x_throwS C hlf ht htab (Nat.le_of_ble_eq_true rfl) (Nat.le_of_ble_eq_true rfl) h1 h2 hlk h1 h2
    · exact x_throwSW C hlf ht htab (Nat.le_of_ble_eq_true rfl) (Nat.le_of_ble_eq_true rfl) h1 h2 hlk h1 h2
    · exact x_throwN C hlf ht htab (Nat.le_of_ble_eq_true rfl) (Nat.le_of_ble_eq_true rfl) h1 h2 hlk h1 h2
  have hout : ∀ (k9 : Nat), res = .inr k9 → ∀ (cells9 slots9 pc9 : Nat) (lcs9 : List (Nat × Value)) (st9 : List Value), cells9 ≤ 1 → slots9 ≤ 6 → XO p l e ({ frames := 6, cells := 1, slots := 6, locals := 120 } : Room) s m args below meth c 2 cy D B cells9 slots9 (vx_MQ below (QX cy D B (Sum.map (fun x => some (Value.int x)) id res) σ μ ω) (XCX cy D B (Sum.map (fun x => some (Value.int x)) id res) σ μ ω) args s 1 6 (aB B)) pc9 lcs9 st9 σ μ ω k9 := fun k9 hx9 cells9 slots9 pc9 lcs9 st9 h1 h2 => by rw [hx9]; exact x_out C htab hlk h1 h2
  generalize (vx_MQ below (QX cy D B (Sum.map (fun x => some (Value.int x)) id res) σ μ ω) (XCX cy D B (Sum.map (fun x => some (Value.int x)) id res) σ μ ω) args s 1 6 (aB B)) = Q at hret hthr hout ⊢
  obtain ⟨R, hR9⟩ : ∃ R : Room, R = ({ frames := 6, cells := 1, slots := 6, locals := 120 } : Room) := ⟨_, rfl⟩
  rw [← hR9] at hret hthr hout ⊢
  unfold fX5_waiting at h
  show X p l e R s m args below meth c 2 cy D B 0 0 Q 0 [(0, .ref (B + oHB)), (1, .int p1)] [] σ μ ω
  refine x_iload_n C dX5_waiting_0 rfl 1 rfl ?_
  have hJ1 : ∀ (r9 : (Int32 ⊕ Nat)), jX5_waiting_15 = some r9 → (∀ (x9 : Int32), r9 = .inl x9 → ∀ (cells9 slots9 pc9 : Nat) (lcs9 : List (Nat × Value)), decode cX5_waiting pc9 = .ok (.ireturn, 1) → narrow .int (.int x9) = .int x9 → cells9 ≤ 1 → slots9 ≤ 6 → X p l e R s m args below meth c 2 cy D B cells9 slots9 Q pc9 lcs9 [.int x9] σ μ ω) → (∀ (k9 : Nat), r9 = .inr k9 → ∀ (cells9 slots9 pc9 : Nat) (lcs9 : List (Nat × Value)), (ThrowS "HostelBeds" cX5_waiting pc9 k9 ∨ ThrowSW "HostelBeds" cX5_waiting pc9 k9 ∨ ThrowN "HostelBeds" cX5_waiting pc9 k9) → cells9 + 1 ≤ 1 → slots9 + 6 ≤ 6 → X p l e R s m args below meth c 2 cy D B cells9 slots9 Q pc9 lcs9 [] σ μ ω) → (∀ (k9 : Nat), r9 = .inr k9 → ∀ (cells9 slots9 pc9 : Nat) (lcs9 : List (Nat × Value)) (st9 : List Value), cells9 ≤ 1 → slots9 ≤ 6 → XO p l e R s m args below meth c 2 cy D B cells9 slots9 Q pc9 lcs9 st9 σ μ ω k9) → X p l e R s m args below meth c 2 cy D B 0 0 Q 15 [] [] σ μ ω := by
    intro res9 h hret hthr hout
    unfold jX5_waiting_15 at h
    cases h
    exact hthr _ rfl _ _ _ _ (Or.inl ⟨192, 194, 196, "no such place", dX5_waiting_15, dX5_waiting_18, dX5_waiting_19, dX5_waiting_21, dX5_waiting_24, lw_g_mk tw_762 rfl, lw_g_mk tw_19 rfl, (by decide +kernel), (by decide +kernel), (by decide +kernel), hat_3, hgood_3⟩) (by decide) (by decide)
  refine x_if_lt C (tgt := 15) dX5_waiting_1 (by decide) (fun hc2 => ?_) (fun hc2 => ?_)
  · rw [if_pos hc2] at h
    refine x_sub [] rfl ?_
    exact hJ1 _ h hret hthr hout
  · rw [if_neg hc2] at h
    refine x_iload_n C dX5_waiting_4 rfl 1 rfl ?_
    refine x_aload_n C dX5_waiting_5 rfl 0 rfl ?_
    refine x_get C (C1 := "HostelBeds") (T := TX5) (N := 12) (ci := 5) inXg5 _ (c_HB) rfl 2 (by decide) (lw_g_mk tw_289 rfl) rfl dX5_waiting_6 ?_
    obtain ⟨hg3, h⟩ := gd_some h
    refine x_get C (C1 := "HostelBeds$Hostel") (T := TX1) (N := 12) (ci := 1) inXg1 _ (c_Ho hg3) rfl 6 (by decide) (lw_g_mk tw_206 rfl) rfl dX5_waiting_9 ?_
    refine x_icmp_lt C (tgt := 25) dX5_waiting_12 (by decide) (fun hc4 => ?_) (fun hc4 => ?_)
    · rw [if_pos hc4] at h
      refine x_aload_n C dX5_waiting_25 rfl 0 rfl ?_
      refine x_get C (C1 := "HostelBeds") (T := TX5) (N := 12) (ci := 5) inXg5 _ (c_HB) rfl 2 (by decide) (lw_g_mk tw_289 rfl) rfl dX5_waiting_26 ?_
      refine x_get C (C1 := "HostelBeds$Hostel") (T := TX1) (N := 12) (ci := 1) inXg1 _ (c_Ho hg3) rfl 5 (by decide) (lw_g_mk tw_204 rfl) rfl dX5_waiting_29 ?_
      refine x_iload_n C dX5_waiting_32 rfl 1 rfl ?_
      obtain ⟨hg5, h⟩ := gd_some h
      refine x_iald C _ (c_Que hg3) hg5 dX5_waiting_33 ?_
      cases h
      exact hret _ rfl _ _ _ _ dX5_waiting_34 rfl (by decide) (by decide)
    · rw [if_neg hc4] at h
      refine x_sub [] rfl ?_
      exact hJ1 _ h hret hthr hout
def fX5_placed (p1 : Int32) (σ : Mem) : Option ((Int32 ⊕ Nat)) := ((fX5_checkBooking p1 σ).bind fun q1 => Sum.elim (fun x2 => (gd (inb p1 17) (some (.inl (rI σ 52 0 p1.toNatClampNeg))))) (fun e3 => (some (.inr e3))) q1)
set_option maxHeartbeats 4000000 in
set_option maxRecDepth 100000 in
theorem okX5_placed (l : Launch) (hlf : l.stackTraces = false) (cy : Nat → ClassId) (D : va_G) (B : Nat) (ek : EK) (p1 : Int32) (σ μ ω : Mem) (res : (Int32 ⊕ Nat)) (h : fX5_placed p1 σ = some res) : CTX l cy D B ek yX5_placed cX5_placed 2 (some .int) ({ frames := 7, cells := 1, slots := 6, locals := 141 } : Room) 1 6 [.ref (B + oHB), .int p1] σ μ ω (Sum.map (fun x => some (Value.int x)) id res) σ μ ω := by
  refine met_XX (own := "HostelBeds") (by decide) rfl (Nat.le_of_ble_eq_true rfl) ?_
  intro p e s m args below meth c C hrT hlk htab
  have hret : ∀ (x9 : Int32), res = .inl x9 → ∀ (cells9 slots9 pc9 : Nat) (lcs9 : List (Nat × Value)), decode cX5_placed pc9 = .ok (.ireturn, 1) → narrow .int (.int x9) = .int x9 → cells9 ≤ 1 → slots9 ≤ 6 → X p l e ({ frames := 7, cells := 1, slots := 6, locals := 141 } : Room) s m args below meth c 2 cy D B cells9 slots9 (vx_MQ below (QX cy D B (Sum.map (fun x => some (Value.int x)) id res) σ μ ω) (XCX cy D B (Sum.map (fun x => some (Value.int x)) id res) σ μ ω) args s 1 6 (aB B)) pc9 lcs9 [.int x9] σ μ ω := fun x9 hx9 cells9 slots9 pc9 lcs9 hd hn h1 h2 => by rw [hx9]; exact x_zretX C hrT hlk hn hd h1 h2
  have hout : ∀ (k9 : Nat), res = .inr k9 → ∀ (cells9 slots9 pc9 : Nat) (lcs9 : List (Nat × Value)) (st9 : List Value), cells9 ≤ 1 → slots9 ≤ 6 → XO p l e ({ frames := 7, cells := 1, slots := 6, locals := 141 } : Room) s m args below meth c 2 cy D B cells9 slots9 (vx_MQ below (QX cy D B (Sum.map (fun x => some (Value.int x)) id res) σ μ ω) (XCX cy D B (Sum.map (fun x => some (Value.int x)) id res) σ μ ω) args s 1 6 (aB B)) pc9 lcs9 st9 σ μ ω k9 := fun k9 hx9 cells9 slots9 pc9 lcs9 st9 h1 h2 => by rw [hx9]; exact x_out C htab hlk h1 h2
  have hthr : True := trivial
  generalize (vx_MQ below (QX cy D B (Sum.map (fun x => some (Value.int x)) id res) σ μ ω) (XCX cy D B (Sum.map (fun x => some (Value.int x)) id res) σ μ ω) args s 1 6 (aB B)) = Q at hret hthr hout ⊢
  obtain ⟨R, hR9⟩ : ∃ R : Room, R = ({ frames := 7, cells := 1, slots := 6, locals := 141 } : Room) := ⟨_, rfl⟩
  rw [← hR9] at hret hout ⊢
  unfold fX5_placed at h
  show X p l e R s m args below meth c 2 cy D B 0 0 Q 0 [(0, .ref (B + oHB)), (1, .int p1)] [] σ μ ω
  refine x_aload_n C dX5_placed_0 rfl 0 rfl ?_
  refine x_iload_n C dX5_placed_1 rfl 1 rfl ?_
  obtain ⟨q1, hk1, h⟩ := Option.bind_eq_some_iff.mp h
  refine x_callVX C (As := [.int p1]) (rest := []) (cells2 := 1) (slots2 := 6) (lw_g_mk tw_788 rfl) (lw_g_mk tsel_4 rfl) (c_HB) (C1 := "HostelBeds") (T := TX5) (N := 12) (ci := 5) rfl (okX5_checkBooking l hlf cy D B ek p1 σ μ ω _ hk1) rfl rfl (by rw [hR9]; decide) (lw_g_mk tw_789 rfl) (lw_g_mk tw_1 rfl) (by decide) rfl (lw_g_mk tw_786 rfl) rfl (Nat.le_of_ble_eq_true rfl) dX5_placed_2 (by rw [hR9]; decide) rfl rfl (fun v2 hv3 => ?_) (fun k4 hv5 => ?_)
  · rcases q1 with x2 | e3
    · rw [Sum.elim_inl] at h
      have hv3 : (Sum.inl (none) : Option Value ⊕ Nat) = .inl v2 := hv3
      cases hv3
      refine x_aload_n C dX5_placed_5 rfl 0 rfl ?_
      refine x_get C (C1 := "HostelBeds") (T := TX5) (N := 12) (ci := 5) inXg5 _ (c_HB) rfl 4 (by decide) (lw_g_mk tw_291 rfl) rfl dX5_placed_6 ?_
      refine x_get C (C1 := "HostelBeds$Plan") (T := TX3) (N := 8) (ci := 3) inXg3 _ (c_Pl (by decide)) rfl 2 (by decide) (lw_g_mk tw_259 rfl) rfl dX5_placed_9 ?_
      refine x_iload_n C dX5_placed_12 rfl 1 rfl ?_
      obtain ⟨hg7, h⟩ := gd_some h
      refine x_iald C _ (c_Out (by decide)) hg7 dX5_placed_13 ?_
      cases h
      exact hret _ rfl _ _ _ _ dX5_placed_14 rfl (by decide) (by decide)
    · cases hv3
  · rcases q1 with x2 | e3
    · cases hv5
    · rw [Sum.elim_inr] at h
      have hv5 : (Sum.inr e3 : Option Value ⊕ Nat) = .inr k4 := hv5
      cases hv5
      cases h
      exact hout _ rfl _ _ _ _ _ (by decide) (by decide)
def fX5_roomsOf (p1 : Int32) (σ : Mem) : Option ((Int32 ⊕ Nat)) := ((fX5_checkBooking p1 σ).bind fun q1 => Sum.elim (fun x2 => (gd (inb p1 17) (some (.inl (rI σ 53 0 p1.toNatClampNeg))))) (fun e3 => (some (.inr e3))) q1)
set_option maxHeartbeats 4000000 in
set_option maxRecDepth 100000 in
theorem okX5_roomsOf (l : Launch) (hlf : l.stackTraces = false) (cy : Nat → ClassId) (D : va_G) (B : Nat) (ek : EK) (p1 : Int32) (σ μ ω : Mem) (res : (Int32 ⊕ Nat)) (h : fX5_roomsOf p1 σ = some res) : CTX l cy D B ek yX5_roomsOf cX5_roomsOf 2 (some .int) ({ frames := 7, cells := 1, slots := 6, locals := 141 } : Room) 1 6 [.ref (B + oHB), .int p1] σ μ ω (Sum.map (fun x => some (Value.int x)) id res) σ μ ω := by
  refine met_XX (own := "HostelBeds") (by decide) rfl (Nat.le_of_ble_eq_true rfl) ?_
  intro p e s m args below meth c C hrT hlk htab
  have hret : ∀ (x9 : Int32), res = .inl x9 → ∀ (cells9 slots9 pc9 : Nat) (lcs9 : List (Nat × Value)), decode cX5_roomsOf pc9 = .ok (.ireturn, 1) → narrow .int (.int x9) = .int x9 → cells9 ≤ 1 → slots9 ≤ 6 → X p l e ({ frames := 7, cells := 1, slots := 6, locals := 141 } : Room) s m args below meth c 2 cy D B cells9 slots9 (vx_MQ below (QX cy D B (Sum.map (fun x => some (Value.int x)) id res) σ μ ω) (XCX cy D B (Sum.map (fun x => some (Value.int x)) id res) σ μ ω) args s 1 6 (aB B)) pc9 lcs9 [.int x9] σ μ ω := fun x9 hx9 cells9 slots9 pc9 lcs9 hd hn h1 h2 => by rw [hx9]; exact x_zretX C hrT hlk hn hd h1 h2
  have hout : ∀ (k9 : Nat), res = .inr k9 → ∀ (cells9 slots9 pc9 : Nat) (lcs9 : List (Nat × Value)) (st9 : List Value), cells9 ≤ 1 → slots9 ≤ 6 → XO p l e ({ frames := 7, cells := 1, slots := 6, locals := 141 } : Room) s m args below meth c 2 cy D B cells9 slots9 (vx_MQ below (QX cy D B (Sum.map (fun x => some (Value.int x)) id res) σ μ ω) (XCX cy D B (Sum.map (fun x => some (Value.int x)) id res) σ μ ω) args s 1 6 (aB B)) pc9 lcs9 st9 σ μ ω k9 := fun k9 hx9 cells9 slots9 pc9 lcs9 st9 h1 h2 => by rw [hx9]; exact x_out C htab hlk h1 h2
  have hthr : True := trivial
  generalize (vx_MQ below (QX cy D B (Sum.map (fun x => some (Value.int x)) id res) σ μ ω) (XCX cy D B (Sum.map (fun x => some (Value.int x)) id res) σ μ ω) args s 1 6 (aB B)) = Q at hret hthr hout ⊢
  obtain ⟨R, hR9⟩ : ∃ R : Room, R = ({ frames := 7, cells := 1, slots := 6, locals := 141 } : Room) := ⟨_, rfl⟩
  rw [← hR9] at hret hout ⊢
  unfold fX5_roomsOf at h
  show X p l e R s m args below meth c 2 cy D B 0 0 Q 0 [(0, .ref (B + oHB)), (1, .int p1)] [] σ μ ω
  refine x_aload_n C dX5_roomsOf_0 rfl 0 rfl ?_
  refine x_iload_n C dX5_roomsOf_1 rfl 1 rfl ?_
  obtain ⟨q1, hk1, h⟩ := Option.bind_eq_some_iff.mp h
  refine x_callVX C (As := [.int p1]) (rest := []) (cells2 := 1) (slots2 := 6) (lw_g_mk tw_788 rfl) (lw_g_mk tsel_4 rfl) (c_HB) (C1 := "HostelBeds") (T := TX5) (N := 12) (ci := 5) rfl (okX5_checkBooking l hlf cy D B ek p1 σ μ ω _ hk1) rfl rfl (by rw [hR9]; decide) (lw_g_mk tw_789 rfl) (lw_g_mk tw_1 rfl) (by decide) rfl (lw_g_mk tw_786 rfl) rfl (Nat.le_of_ble_eq_true rfl) dX5_roomsOf_2 (by rw [hR9]; decide) rfl rfl (fun v2 hv3 => ?_) (fun k4 hv5 => ?_)
  · rcases q1 with x2 | e3
    · rw [Sum.elim_inl] at h
      have hv3 : (Sum.inl (none) : Option Value ⊕ Nat) = .inl v2 := hv3
      cases hv3
      refine x_aload_n C dX5_roomsOf_5 rfl 0 rfl ?_
      refine x_get C (C1 := "HostelBeds") (T := TX5) (N := 12) (ci := 5) inXg5 _ (c_HB) rfl 4 (by decide) (lw_g_mk tw_291 rfl) rfl dX5_roomsOf_6 ?_
      refine x_get C (C1 := "HostelBeds$Plan") (T := TX3) (N := 8) (ci := 3) inXg3 _ (c_Pl (by decide)) rfl 3 (by decide) (lw_g_mk tw_261 rfl) rfl dX5_roomsOf_9 ?_
      refine x_iload_n C dX5_roomsOf_12 rfl 1 rfl ?_
      obtain ⟨hg7, h⟩ := gd_some h
      refine x_iald C _ (c_Rb (by decide)) hg7 dX5_roomsOf_13 ?_
      cases h
      exact hret _ rfl _ _ _ _ dX5_roomsOf_14 rfl (by decide) (by decide)
    · cases hv3
  · rcases q1 with x2 | e3
    · cases hv5
    · rw [Sum.elim_inr] at h
      have hv5 : (Sum.inr e3 : Option Value ⊕ Nat) = .inr k4 := hv5
      cases hv5
      cases h
      exact hout _ rfl _ _ _ _ _ (by decide) (by decide)
def jX5_bedOfPerson_25 : Option ((Int32 ⊕ Nat)) := (some (.inr 3))
def fX5_bedOfPerson (p1 : Int32) (p2 : Int32) (σ : Mem) : Option ((Int32 ⊕ Nat)) := ((fX5_checkBooking p1 σ).bind fun q1 => Sum.elim (fun x2 => (if p2 < 0 then (jX5_bedOfPerson_25) else (gd (rP σ 0 < 12) (gd (inb p1 17) (if p2 < (rI σ 44 (rP σ 0) p1.toNatClampNeg) then ((fX3_hasBeds 0 p1 σ).bind fun q4 => (if ¬ q4 = 0 then (gd (inb ((p1 * (12 : Int32)) + p2) 204) (some (.inl (rI σ 51 0 ((p1 * (12 : Int32)) + p2).toNatClampNeg)))) else (some (.inr 4)))) else (jX5_bedOfPerson_25)))))) (fun e3 => (some (.inr e3))) q1)
set_option maxHeartbeats 4000000 in
set_option maxRecDepth 100000 in
theorem okX5_bedOfPerson (l : Launch) (hlf : l.stackTraces = false) (cy : Nat → ClassId) (D : va_G) (B : Nat) (ek : EK) (p1 : Int32) (p2 : Int32) (σ μ ω : Mem) (res : (Int32 ⊕ Nat)) (h : fX5_bedOfPerson p1 p2 σ = some res) : CTX l cy D B ek yX5_bedOfPerson cX5_bedOfPerson 3 (some .int) ({ frames := 7, cells := 2, slots := 12, locals := 141 } : Room) 2 12 [.ref (B + oHB), .int p1, .int p2] σ μ ω (Sum.map (fun x => some (Value.int x)) id res) σ μ ω := by
  refine met_XX (own := "HostelBeds") (by decide) rfl (Nat.le_of_ble_eq_true rfl) ?_
  intro p e s m args below meth c C hrT hlk htab
  have hret : ∀ (x9 : Int32), res = .inl x9 → ∀ (cells9 slots9 pc9 : Nat) (lcs9 : List (Nat × Value)), decode cX5_bedOfPerson pc9 = .ok (.ireturn, 1) → narrow .int (.int x9) = .int x9 → cells9 ≤ 2 → slots9 ≤ 12 → X p l e ({ frames := 7, cells := 2, slots := 12, locals := 141 } : Room) s m args below meth c 3 cy D B cells9 slots9 (vx_MQ below (QX cy D B (Sum.map (fun x => some (Value.int x)) id res) σ μ ω) (XCX cy D B (Sum.map (fun x => some (Value.int x)) id res) σ μ ω) args s 2 12 (aB B)) pc9 lcs9 [.int x9] σ μ ω := fun x9 hx9 cells9 slots9 pc9 lcs9 hd hn h1 h2 => by rw [hx9]; exact x_zretX C hrT hlk hn hd h1 h2
  have hthr : ∀ (k9 : Nat), res = .inr k9 → ∀ (cells9 slots9 pc9 : Nat) (lcs9 : List (Nat × Value)), (ThrowS "HostelBeds" cX5_bedOfPerson pc9 k9 ∨ ThrowSW "HostelBeds" cX5_bedOfPerson pc9 k9 ∨ ThrowN "HostelBeds" cX5_bedOfPerson pc9 k9) → cells9 + 1 ≤ 2 → slots9 + 6 ≤ 12 → X p l e ({ frames := 7, cells := 2, slots := 12, locals := 141 } : Room) s m args below meth c 3 cy D B cells9 slots9 (vx_MQ below (QX cy D B (Sum.map (fun x => some (Value.int x)) id res) σ μ ω) (XCX cy D B (Sum.map (fun x => some (Value.int x)) id res) σ μ ω) args s 2 12 (aB B)) pc9 lcs9 [] σ μ ω := fun k9 hx9 cells9 slots9 pc9 lcs9 ht h1 h2 => by
    rw [hx9]
    rcases ht with ht | ht | ht
    · exact x_throwS C hlf ht htab (Nat.le_of_ble_eq_true rfl) (Nat.le_of_ble_eq_true rfl) h1 h2 hlk h1 h2
    · exact x_throwSW C hlf ht htab (Nat.le_of_ble_eq_true rfl) (Nat.le_of_ble_eq_true rfl) h1 h2 hlk h1 h2
    · exact x_throwN C hlf ht htab (Nat.le_of_ble_eq_true rfl) (Nat.le_of_ble_eq_true rfl) h1 h2 hlk h1 h2
  have hout : ∀ (k9 : Nat), res = .inr k9 → ∀ (cells9 slots9 pc9 : Nat) (lcs9 : List (Nat × Value)) (st9 : List Value), cells9 ≤ 2 → slots9 ≤ 12 → XO p l e ({ frames := 7, cells := 2, slots := 12, locals := 141 } : Room) s m args below meth c 3 cy D B cells9 slots9 (vx_MQ below (QX cy D B (Sum.map (fun x => some (Value.int x)) id res) σ μ ω) (XCX cy D B (Sum.map (fun x => some (Value.int x)) id res) σ μ ω) args s 2 12 (aB B)) pc9 lcs9 st9 σ μ ω k9 := fun k9 hx9 cells9 slots9 pc9 lcs9 st9 h1 h2 => by rw [hx9]; exact x_out C htab hlk h1 h2
  generalize (vx_MQ below (QX cy D B (Sum.map (fun x => some (Value.int x)) id res) σ μ ω) (XCX cy D B (Sum.map (fun x => some (Value.int x)) id res) σ μ ω) args s 2 12 (aB B)) = Q at hret hthr hout ⊢
  obtain ⟨R, hR9⟩ : ∃ R : Room, R = ({ frames := 7, cells := 2, slots := 12, locals := 141 } : Room) := ⟨_, rfl⟩
  rw [← hR9] at hret hthr hout ⊢
  unfold fX5_bedOfPerson at h
  show X p l e R s m args below meth c 3 cy D B 0 0 Q 0 [(0, .ref (B + oHB)), (1, .int p1), (2, .int p2)] [] σ μ ω
  refine x_aload_n C dX5_bedOfPerson_0 rfl 0 rfl ?_
  refine x_iload_n C dX5_bedOfPerson_1 rfl 1 rfl ?_
  obtain ⟨q1, hk1, h⟩ := Option.bind_eq_some_iff.mp h
  refine x_callVX C (As := [.int p1]) (rest := []) (cells2 := 1) (slots2 := 6) (lw_g_mk tw_788 rfl) (lw_g_mk tsel_4 rfl) (c_HB) (C1 := "HostelBeds") (T := TX5) (N := 12) (ci := 5) rfl (okX5_checkBooking l hlf cy D B ek p1 σ μ ω _ hk1) rfl rfl (by rw [hR9]; decide) (lw_g_mk tw_789 rfl) (lw_g_mk tw_1 rfl) (by decide) rfl (lw_g_mk tw_786 rfl) rfl (Nat.le_of_ble_eq_true rfl) dX5_bedOfPerson_2 (by rw [hR9]; decide) rfl rfl (fun v2 hv3 => ?_) (fun k4 hv5 => ?_)
  · rcases q1 with x2 | e3
    · rw [Sum.elim_inl] at h
      have hv3 : (Sum.inl (none) : Option Value ⊕ Nat) = .inl v2 := hv3
      cases hv3
      refine x_iload_n C dX5_bedOfPerson_5 rfl 2 rfl ?_
      have hJ7 : ∀ (r9 : (Int32 ⊕ Nat)), jX5_bedOfPerson_25 = some r9 → (∀ (x9 : Int32), r9 = .inl x9 → ∀ (cells9 slots9 pc9 : Nat) (lcs9 : List (Nat × Value)), decode cX5_bedOfPerson pc9 = .ok (.ireturn, 1) → narrow .int (.int x9) = .int x9 → cells9 ≤ 2 → slots9 ≤ 12 → X p l e R s m args below meth c 3 cy D B cells9 slots9 Q pc9 lcs9 [.int x9] σ μ ω) → (∀ (k9 : Nat), r9 = .inr k9 → ∀ (cells9 slots9 pc9 : Nat) (lcs9 : List (Nat × Value)), (ThrowS "HostelBeds" cX5_bedOfPerson pc9 k9 ∨ ThrowSW "HostelBeds" cX5_bedOfPerson pc9 k9 ∨ ThrowN "HostelBeds" cX5_bedOfPerson pc9 k9) → cells9 + 1 ≤ 2 → slots9 + 6 ≤ 12 → X p l e R s m args below meth c 3 cy D B cells9 slots9 Q pc9 lcs9 [] σ μ ω) → (∀ (k9 : Nat), r9 = .inr k9 → ∀ (cells9 slots9 pc9 : Nat) (lcs9 : List (Nat × Value)) (st9 : List Value), cells9 ≤ 2 → slots9 ≤ 12 → XO p l e R s m args below meth c 3 cy D B cells9 slots9 Q pc9 lcs9 st9 σ μ ω k9) → X p l e R s m args below meth c 3 cy D B 1 6 Q 25 [] [] σ μ ω := by
        intro res9 h hret hthr hout
        unfold jX5_bedOfPerson_25 at h
        cases h
        exact hthr _ rfl _ _ _ _ (Or.inl ⟨192, 214, 196, "no such person", dX5_bedOfPerson_25, dX5_bedOfPerson_28, dX5_bedOfPerson_29, dX5_bedOfPerson_31, dX5_bedOfPerson_34, lw_g_mk tw_762 rfl, lw_g_mk tw_19 rfl, (by decide +kernel), (by decide +kernel), (by decide +kernel), hat_3, hgood_3⟩) (by decide) (by decide)
      refine x_if_lt C (tgt := 25) dX5_bedOfPerson_6 (by decide) (fun hc8 => ?_) (fun hc8 => ?_)
      · rw [if_pos hc8] at h
        refine x_sub [] rfl ?_
        exact hJ7 _ h hret hthr hout
      · rw [if_neg hc8] at h
        refine x_iload_n C dX5_bedOfPerson_9 rfl 2 rfl ?_
        refine x_aload_n C dX5_bedOfPerson_10 rfl 0 rfl ?_
        refine x_get C (C1 := "HostelBeds") (T := TX5) (N := 12) (ci := 5) inXg5 _ (c_HB) rfl 2 (by decide) (lw_g_mk tw_289 rfl) rfl dX5_bedOfPerson_11 ?_
        obtain ⟨hg9, h⟩ := gd_some h
        refine x_get C (C1 := "HostelBeds$Hostel") (T := TX1) (N := 12) (ci := 1) inXg1 _ (c_Ho hg9) rfl 3 (by decide) (lw_g_mk tw_197 rfl) rfl dX5_bedOfPerson_14 ?_
        refine x_iload_n C dX5_bedOfPerson_17 rfl 1 rfl ?_
        obtain ⟨hg10, h⟩ := gd_some h
        refine x_aldq C _ 6 (C1 := "HostelBeds$Booking") (c_Bks hg9) rfl hg10 rfl dX5_bedOfPerson_18 ?_
        refine x_get C (C1 := "HostelBeds$Booking") (T := TX0) (N := 11) (ci := 0) inXg0 _ (c_Bk hg9 (inb_lt hg10)) rfl 5 (by decide) (lw_g_mk tw_134 rfl) rfl dX5_bedOfPerson_19 ?_
        refine x_icmp_lt C (tgt := 35) dX5_bedOfPerson_22 (by decide) (fun hc11 => ?_) (fun hc11 => ?_)
        · rw [if_pos hc11] at h
          refine x_aload_n C dX5_bedOfPerson_35 rfl 0 rfl ?_
          refine x_get C (C1 := "HostelBeds") (T := TX5) (N := 12) (ci := 5) inXg5 _ (c_HB) rfl 4 (by decide) (lw_g_mk tw_291 rfl) rfl dX5_bedOfPerson_36 ?_
          refine x_iload_n C dX5_bedOfPerson_39 rfl 1 rfl ?_
          obtain ⟨q4, hk12, h⟩ := Option.bind_eq_some_iff.mp h
          refine x_callV C (As := [.int p1]) (rest := []) (lw_g_mk tw_864 rfl) (lw_g_mk tw_865 rfl) (c_Pl (by decide)) (C1 := "HostelBeds$Plan") (T := TX3) (N := 8) (ci := 3) rfl (okX3_hasBeds l cy D B ek 0 p1 σ μ ω (by decide) _ hk12) rfl rfl (by rw [hR9]; decide) (lw_g_mk tw_866 rfl) (lw_g_mk tw_6 rfl) (by decide) rfl (lw_g_mk tw_863 rfl) rfl (Nat.le_of_ble_eq_true rfl) dX5_bedOfPerson_40 (by rw [hR9]; decide) ?_
          refine x_if_ne C (tgt := 56) dX5_bedOfPerson_43 (by decide) (fun hc13 => ?_) (fun hc13 => ?_)
          · rw [if_pos hc13] at h
            refine x_aload_n C dX5_bedOfPerson_56 rfl 0 rfl ?_
            refine x_get C (C1 := "HostelBeds") (T := TX5) (N := 12) (ci := 5) inXg5 _ (c_HB) rfl 4 (by decide) (lw_g_mk tw_291 rfl) rfl dX5_bedOfPerson_57 ?_
            refine x_get C (C1 := "HostelBeds$Plan") (T := TX3) (N := 8) (ci := 3) inXg3 _ (c_Pl (by decide)) rfl 1 (by decide) (lw_g_mk tw_257 rfl) rfl dX5_bedOfPerson_60 ?_
            refine x_iload_n C dX5_bedOfPerson_63 rfl 1 rfl ?_
            refine x_bipush C (v := 12) dX5_bedOfPerson_64 (by decide) ?_
            refine x_imul C dX5_bedOfPerson_66 ?_
            refine x_iload_n C dX5_bedOfPerson_67 rfl 2 rfl ?_
            refine x_iadd C dX5_bedOfPerson_68 ?_
            obtain ⟨hg14, h⟩ := gd_some h
            refine x_iald C _ (c_Bop (by decide)) hg14 dX5_bedOfPerson_69 ?_
            cases h
            exact hret _ rfl _ _ _ _ dX5_bedOfPerson_70 rfl (by decide) (by decide)
          · rw [if_neg hc13] at h
            cases h
            exact hthr _ rfl _ _ _ _ (Or.inr (Or.inr ⟨181, 220, 185, "the booking has no beds", dX5_bedOfPerson_46, dX5_bedOfPerson_49, dX5_bedOfPerson_50, dX5_bedOfPerson_52, dX5_bedOfPerson_55, lw_g_mk tw_806 rfl, lw_g_mk tw_20 rfl, (by decide +kernel), rfl⟩)) (by decide) (by decide)
        · rw [if_neg hc11] at h
          refine x_sub [] rfl ?_
          exact hJ7 _ h hret hthr hout
    · cases hv3
  · rcases q1 with x2 | e3
    · cases hv5
    · rw [Sum.elim_inr] at h
      have hv5 : (Sum.inr e3 : Option Value ⊕ Nat) = .inr k4 := hv5
      cases hv5
      cases h
      exact hout _ rfl _ _ _ _ _ (by decide) (by decide)
def fX5_roomOf (p1 : Int32) (p2 : Int32) (σ : Mem) : Option ((Int32 ⊕ Nat)) := ((fX5_bedOfPerson p1 p2 σ).bind fun q1 => Sum.elim (fun x2 => (some (.inl (x2 / (10 : Int32))))) (fun e3 => (some (.inr e3))) q1)
set_option maxHeartbeats 4000000 in
set_option maxRecDepth 100000 in
theorem okX5_roomOf (l : Launch) (hlf : l.stackTraces = false) (cy : Nat → ClassId) (D : va_G) (B : Nat) (ek : EK) (p1 : Int32) (p2 : Int32) (σ μ ω : Mem) (res : (Int32 ⊕ Nat)) (h : fX5_roomOf p1 p2 σ = some res) : CTX l cy D B ek yX5_roomOf cX5_roomOf 3 (some .int) ({ frames := 8, cells := 2, slots := 12, locals := 163 } : Room) 2 12 [.ref (B + oHB), .int p1, .int p2] σ μ ω (Sum.map (fun x => some (Value.int x)) id res) σ μ ω := by
  refine met_XX (own := "HostelBeds") (by decide) rfl (Nat.le_of_ble_eq_true rfl) ?_
  intro p e s m args below meth c C hrT hlk htab
  have hret : ∀ (x9 : Int32), res = .inl x9 → ∀ (cells9 slots9 pc9 : Nat) (lcs9 : List (Nat × Value)), decode cX5_roomOf pc9 = .ok (.ireturn, 1) → narrow .int (.int x9) = .int x9 → cells9 ≤ 2 → slots9 ≤ 12 → X p l e ({ frames := 8, cells := 2, slots := 12, locals := 163 } : Room) s m args below meth c 3 cy D B cells9 slots9 (vx_MQ below (QX cy D B (Sum.map (fun x => some (Value.int x)) id res) σ μ ω) (XCX cy D B (Sum.map (fun x => some (Value.int x)) id res) σ μ ω) args s 2 12 (aB B)) pc9 lcs9 [.int x9] σ μ ω := fun x9 hx9 cells9 slots9 pc9 lcs9 hd hn h1 h2 => by rw [hx9]; exact x_zretX C hrT hlk hn hd h1 h2
  have hout : ∀ (k9 : Nat), res = .inr k9 → ∀ (cells9 slots9 pc9 : Nat) (lcs9 : List (Nat × Value)) (st9 : List Value), cells9 ≤ 2 → slots9 ≤ 12 → XO p l e ({ frames := 8, cells := 2, slots := 12, locals := 163 } : Room) s m args below meth c 3 cy D B cells9 slots9 (vx_MQ below (QX cy D B (Sum.map (fun x => some (Value.int x)) id res) σ μ ω) (XCX cy D B (Sum.map (fun x => some (Value.int x)) id res) σ μ ω) args s 2 12 (aB B)) pc9 lcs9 st9 σ μ ω k9 := fun k9 hx9 cells9 slots9 pc9 lcs9 st9 h1 h2 => by rw [hx9]; exact x_out C htab hlk h1 h2
  have hthr : True := trivial
  generalize (vx_MQ below (QX cy D B (Sum.map (fun x => some (Value.int x)) id res) σ μ ω) (XCX cy D B (Sum.map (fun x => some (Value.int x)) id res) σ μ ω) args s 2 12 (aB B)) = Q at hret hthr hout ⊢
  obtain ⟨R, hR9⟩ : ∃ R : Room, R = ({ frames := 8, cells := 2, slots := 12, locals := 163 } : Room) := ⟨_, rfl⟩
  rw [← hR9] at hret hout ⊢
  unfold fX5_roomOf at h
  show X p l e R s m args below meth c 3 cy D B 0 0 Q 0 [(0, .ref (B + oHB)), (1, .int p1), (2, .int p2)] [] σ μ ω
  refine x_aload_n C dX5_roomOf_0 rfl 0 rfl ?_
  refine x_iload_n C dX5_roomOf_1 rfl 1 rfl ?_
  refine x_iload_n C dX5_roomOf_2 rfl 2 rfl ?_
  obtain ⟨q1, hk1, h⟩ := Option.bind_eq_some_iff.mp h
  refine x_callVX C (As := [.int p1, .int p2]) (rest := []) (cells2 := 2) (slots2 := 12) (lw_g_mk tw_860 rfl) (lw_g_mk tsel_5 rfl) (c_HB) (C1 := "HostelBeds") (T := TX5) (N := 12) (ci := 5) rfl (okX5_bedOfPerson l hlf cy D B ek p1 p2 σ μ ω _ hk1) rfl rfl (by rw [hR9]; decide) (lw_g_mk tw_861 rfl) (lw_g_mk tw_1 rfl) (by decide) rfl (lw_g_mk tw_858 rfl) rfl (Nat.le_of_ble_eq_true rfl) dX5_roomOf_3 (by rw [hR9]; decide) rfl rfl (fun v2 hv3 => ?_) (fun k4 hv5 => ?_)
  · rcases q1 with x2 | e3
    · rw [Sum.elim_inl] at h
      have hv3 : (Sum.inl (some (Value.int x2)) : Option Value ⊕ Nat) = .inl v2 := hv3
      cases hv3
      refine x_bipush C (v := 10) dX5_roomOf_6 (by decide) ?_
      refine x_idiv C dX5_roomOf_8 (by decide) ?_
      cases h
      exact hret _ rfl _ _ _ _ dX5_roomOf_9 rfl (by decide) (by decide)
    · cases hv3
  · rcases q1 with x2 | e3
    · cases hv5
    · rw [Sum.elim_inr] at h
      have hv5 : (Sum.inr e3 : Option Value ⊕ Nat) = .inr k4 := hv5
      cases hv5
      cases h
      exact hout _ rfl _ _ _ _ _ (by decide) (by decide)
def fX5_bedOf (p1 : Int32) (p2 : Int32) (σ : Mem) : Option ((Int32 ⊕ Nat)) := ((fX5_bedOfPerson p1 p2 σ).bind fun q1 => Sum.elim (fun x2 => (some (.inl (x2 - x2 / (10 : Int32) * (10 : Int32))))) (fun e3 => (some (.inr e3))) q1)
set_option maxHeartbeats 4000000 in
set_option maxRecDepth 100000 in
theorem okX5_bedOf (l : Launch) (hlf : l.stackTraces = false) (cy : Nat → ClassId) (D : va_G) (B : Nat) (ek : EK) (p1 : Int32) (p2 : Int32) (σ μ ω : Mem) (res : (Int32 ⊕ Nat)) (h : fX5_bedOf p1 p2 σ = some res) : CTX l cy D B ek yX5_bedOf cX5_bedOf 3 (some .int) ({ frames := 8, cells := 2, slots := 12, locals := 163 } : Room) 2 12 [.ref (B + oHB), .int p1, .int p2] σ μ ω (Sum.map (fun x => some (Value.int x)) id res) σ μ ω := by
  refine met_XX (own := "HostelBeds") (by decide) rfl (Nat.le_of_ble_eq_true rfl) ?_
  intro p e s m args below meth c C hrT hlk htab
  have hret : ∀ (x9 : Int32), res = .inl x9 → ∀ (cells9 slots9 pc9 : Nat) (lcs9 : List (Nat × Value)), decode cX5_bedOf pc9 = .ok (.ireturn, 1) → narrow .int (.int x9) = .int x9 → cells9 ≤ 2 → slots9 ≤ 12 → X p l e ({ frames := 8, cells := 2, slots := 12, locals := 163 } : Room) s m args below meth c 3 cy D B cells9 slots9 (vx_MQ below (QX cy D B (Sum.map (fun x => some (Value.int x)) id res) σ μ ω) (XCX cy D B (Sum.map (fun x => some (Value.int x)) id res) σ μ ω) args s 2 12 (aB B)) pc9 lcs9 [.int x9] σ μ ω := fun x9 hx9 cells9 slots9 pc9 lcs9 hd hn h1 h2 => by rw [hx9]; exact x_zretX C hrT hlk hn hd h1 h2
  have hout : ∀ (k9 : Nat), res = .inr k9 → ∀ (cells9 slots9 pc9 : Nat) (lcs9 : List (Nat × Value)) (st9 : List Value), cells9 ≤ 2 → slots9 ≤ 12 → XO p l e ({ frames := 8, cells := 2, slots := 12, locals := 163 } : Room) s m args below meth c 3 cy D B cells9 slots9 (vx_MQ below (QX cy D B (Sum.map (fun x => some (Value.int x)) id res) σ μ ω) (XCX cy D B (Sum.map (fun x => some (Value.int x)) id res) σ μ ω) args s 2 12 (aB B)) pc9 lcs9 st9 σ μ ω k9 := fun k9 hx9 cells9 slots9 pc9 lcs9 st9 h1 h2 => by rw [hx9]; exact x_out C htab hlk h1 h2
  have hthr : True := trivial
  generalize (vx_MQ below (QX cy D B (Sum.map (fun x => some (Value.int x)) id res) σ μ ω) (XCX cy D B (Sum.map (fun x => some (Value.int x)) id res) σ μ ω) args s 2 12 (aB B)) = Q at hret hthr hout ⊢
  obtain ⟨R, hR9⟩ : ∃ R : Room, R = ({ frames := 8, cells := 2, slots := 12, locals := 163 } : Room) := ⟨_, rfl⟩
  rw [← hR9] at hret hout ⊢
  unfold fX5_bedOf at h
  show X p l e R s m args below meth c 3 cy D B 0 0 Q 0 [(0, .ref (B + oHB)), (1, .int p1), (2, .int p2)] [] σ μ ω
  refine x_aload_n C dX5_bedOf_0 rfl 0 rfl ?_
  refine x_iload_n C dX5_bedOf_1 rfl 1 rfl ?_
  refine x_iload_n C dX5_bedOf_2 rfl 2 rfl ?_
  obtain ⟨q1, hk1, h⟩ := Option.bind_eq_some_iff.mp h
  refine x_callVX C (As := [.int p1, .int p2]) (rest := []) (cells2 := 2) (slots2 := 12) (lw_g_mk tw_860 rfl) (lw_g_mk tsel_5 rfl) (c_HB) (C1 := "HostelBeds") (T := TX5) (N := 12) (ci := 5) rfl (okX5_bedOfPerson l hlf cy D B ek p1 p2 σ μ ω _ hk1) rfl rfl (by rw [hR9]; decide) (lw_g_mk tw_861 rfl) (lw_g_mk tw_1 rfl) (by decide) rfl (lw_g_mk tw_858 rfl) rfl (Nat.le_of_ble_eq_true rfl) dX5_bedOf_3 (by rw [hR9]; decide) rfl rfl (fun v2 hv3 => ?_) (fun k4 hv5 => ?_)
  · rcases q1 with x2 | e3
    · rw [Sum.elim_inl] at h
      have hv3 : (Sum.inl (some (Value.int x2)) : Option Value ⊕ Nat) = .inl v2 := hv3
      cases hv3
      refine x_bipush C (v := 10) dX5_bedOf_6 (by decide) ?_
      refine x_irem C dX5_bedOf_8 (by decide) ?_
      cases h
      exact hret _ rfl _ _ _ _ dX5_bedOf_9 rfl (by decide) (by decide)
    · cases hv3
  · rcases q1 with x2 | e3
    · cases hv5
    · rw [Sum.elim_inr] at h
      have hv5 : (Sum.inr e3 : Option Value ⊕ Nat) = .inr k4 := hv5
      cases hv5
      cases h
      exact hout _ rfl _ _ _ _ _ (by decide) (by decide)
def jX5_checkBed_25 : Option ((Unit ⊕ Nat)) := (some (.inr 3))
def fX5_checkBed (p1 : Int32) (p2 : Int32) (σ : Mem) : Option ((Unit ⊕ Nat)) := ((fX5_checkRoom p1 σ).bind fun q1 => Sum.elim (fun x2 => (if p2 < 0 then (jX5_checkBed_25) else (gd (rP σ 0 < 12) (gd (inb p1 8) (if p2 < (rI σ 31 (rP σ 0) p1.toNatClampNeg) then (some (.inl ())) else (jX5_checkBed_25)))))) (fun e3 => (some (.inr e3))) q1)
set_option maxHeartbeats 4000000 in
set_option maxRecDepth 100000 in
theorem okX5_checkBed (l : Launch) (hlf : l.stackTraces = false) (cy : Nat → ClassId) (D : va_G) (B : Nat) (ek : EK) (p1 : Int32) (p2 : Int32) (σ μ ω : Mem) (res : (Unit ⊕ Nat)) (h : fX5_checkBed p1 p2 σ = some res) : CTX l cy D B ek yX5_checkBed cX5_checkBed 3 none ({ frames := 7, cells := 2, slots := 12, locals := 141 } : Room) 2 12 [.ref (B + oHB), .int p1, .int p2] σ μ ω (Sum.map (fun _ => (none : Option Value)) id res) σ μ ω := by
  refine met_XX (own := "HostelBeds") (by decide) rfl (Nat.le_of_ble_eq_true rfl) ?_
  intro p e s m args below meth c C hrT hlk htab
  have hret : ∀ (x9 : Unit), res = .inl x9 → ∀ (cells9 slots9 pc9 : Nat) (lcs9 : List (Nat × Value)), decode cX5_checkBed pc9 = .ok (.return_, 1) → cells9 ≤ 2 → slots9 ≤ 12 → X p l e ({ frames := 7, cells := 2, slots := 12, locals := 141 } : Room) s m args below meth c 3 cy D B cells9 slots9 (vx_MQ below (QX cy D B (Sum.map (fun _ => (none : Option Value)) id res) σ μ ω) (XCX cy D B (Sum.map (fun _ => (none : Option Value)) id res) σ μ ω) args s 2 12 (aB B)) pc9 lcs9 [] σ μ ω := fun x9 hx9 cells9 slots9 pc9 lcs9 hd h1 h2 => by rw [hx9]; exact x_vretX C hrT hlk hd h1 h2
  have hthr : ∀ (k9 : Nat), res = .inr k9 → ∀ (cells9 slots9 pc9 : Nat) (lcs9 : List (Nat × Value)), (ThrowS "HostelBeds" cX5_checkBed pc9 k9 ∨ ThrowSW "HostelBeds" cX5_checkBed pc9 k9 ∨ ThrowN "HostelBeds" cX5_checkBed pc9 k9) → cells9 + 1 ≤ 2 → slots9 + 6 ≤ 12 → X p l e ({ frames := 7, cells := 2, slots := 12, locals := 141 } : Room) s m args below meth c 3 cy D B cells9 slots9 (vx_MQ below (QX cy D B (Sum.map (fun _ => (none : Option Value)) id res) σ μ ω) (XCX cy D B (Sum.map (fun _ => (none : Option Value)) id res) σ μ ω) args s 2 12 (aB B)) pc9 lcs9 [] σ μ ω := fun k9 hx9 cells9 slots9 pc9 lcs9 ht h1 h2 => by
    rw [hx9]
    rcases ht with ht | ht | ht
    · exact x_throwS C hlf ht htab (Nat.le_of_ble_eq_true rfl) (Nat.le_of_ble_eq_true rfl) h1 h2 hlk h1 h2
    · exact x_throwSW C hlf ht htab (Nat.le_of_ble_eq_true rfl) (Nat.le_of_ble_eq_true rfl) h1 h2 hlk h1 h2
    · exact x_throwN C hlf ht htab (Nat.le_of_ble_eq_true rfl) (Nat.le_of_ble_eq_true rfl) h1 h2 hlk h1 h2
  have hout : ∀ (k9 : Nat), res = .inr k9 → ∀ (cells9 slots9 pc9 : Nat) (lcs9 : List (Nat × Value)) (st9 : List Value), cells9 ≤ 2 → slots9 ≤ 12 → XO p l e ({ frames := 7, cells := 2, slots := 12, locals := 141 } : Room) s m args below meth c 3 cy D B cells9 slots9 (vx_MQ below (QX cy D B (Sum.map (fun _ => (none : Option Value)) id res) σ μ ω) (XCX cy D B (Sum.map (fun _ => (none : Option Value)) id res) σ μ ω) args s 2 12 (aB B)) pc9 lcs9 st9 σ μ ω k9 := fun k9 hx9 cells9 slots9 pc9 lcs9 st9 h1 h2 => by rw [hx9]; exact x_out C htab hlk h1 h2
  generalize (vx_MQ below (QX cy D B (Sum.map (fun _ => (none : Option Value)) id res) σ μ ω) (XCX cy D B (Sum.map (fun _ => (none : Option Value)) id res) σ μ ω) args s 2 12 (aB B)) = Q at hret hthr hout ⊢
  obtain ⟨R, hR9⟩ : ∃ R : Room, R = ({ frames := 7, cells := 2, slots := 12, locals := 141 } : Room) := ⟨_, rfl⟩
  rw [← hR9] at hret hthr hout ⊢
  unfold fX5_checkBed at h
  show X p l e R s m args below meth c 3 cy D B 0 0 Q 0 [(0, .ref (B + oHB)), (1, .int p1), (2, .int p2)] [] σ μ ω
  refine x_aload_n C dX5_checkBed_0 rfl 0 rfl ?_
  refine x_iload_n C dX5_checkBed_1 rfl 1 rfl ?_
  obtain ⟨q1, hk1, h⟩ := Option.bind_eq_some_iff.mp h
  refine x_callVX C (As := [.int p1]) (rest := []) (cells2 := 1) (slots2 := 6) (lw_g_mk tw_760 rfl) (lw_g_mk tsel_3 rfl) (c_HB) (C1 := "HostelBeds") (T := TX5) (N := 12) (ci := 5) rfl (okX5_checkRoom l hlf cy D B ek p1 σ μ ω _ hk1) rfl rfl (by rw [hR9]; decide) (lw_g_mk tw_761 rfl) (lw_g_mk tw_1 rfl) (by decide) rfl (lw_g_mk tw_758 rfl) rfl (Nat.le_of_ble_eq_true rfl) dX5_checkBed_2 (by rw [hR9]; decide) rfl rfl (fun v2 hv3 => ?_) (fun k4 hv5 => ?_)
  · rcases q1 with x2 | e3
    · rw [Sum.elim_inl] at h
      have hv3 : (Sum.inl (none) : Option Value ⊕ Nat) = .inl v2 := hv3
      cases hv3
      refine x_iload_n C dX5_checkBed_5 rfl 2 rfl ?_
      have hJ7 : ∀ (r9 : (Unit ⊕ Nat)), jX5_checkBed_25 = some r9 → (∀ (x9 : Unit), r9 = .inl x9 → ∀ (cells9 slots9 pc9 : Nat) (lcs9 : List (Nat × Value)), decode cX5_checkBed pc9 = .ok (.return_, 1) → cells9 ≤ 2 → slots9 ≤ 12 → X p l e R s m args below meth c 3 cy D B cells9 slots9 Q pc9 lcs9 [] σ μ ω) → (∀ (k9 : Nat), r9 = .inr k9 → ∀ (cells9 slots9 pc9 : Nat) (lcs9 : List (Nat × Value)), (ThrowS "HostelBeds" cX5_checkBed pc9 k9 ∨ ThrowSW "HostelBeds" cX5_checkBed pc9 k9 ∨ ThrowN "HostelBeds" cX5_checkBed pc9 k9) → cells9 + 1 ≤ 2 → slots9 + 6 ≤ 12 → X p l e R s m args below meth c 3 cy D B cells9 slots9 Q pc9 lcs9 [] σ μ ω) → (∀ (k9 : Nat), r9 = .inr k9 → ∀ (cells9 slots9 pc9 : Nat) (lcs9 : List (Nat × Value)) (st9 : List Value), cells9 ≤ 2 → slots9 ≤ 12 → XO p l e R s m args below meth c 3 cy D B cells9 slots9 Q pc9 lcs9 st9 σ μ ω k9) → X p l e R s m args below meth c 3 cy D B 1 6 Q 25 [] [] σ μ ω := by
        intro res9 h hret hthr hout
        unfold jX5_checkBed_25 at h
        cases h
        exact hthr _ rfl _ _ _ _ (Or.inr (Or.inl ⟨192, 352, 196, "no such bed", dX5_checkBed_25, dX5_checkBed_28, dX5_checkBed_29, dX5_checkBed_32, dX5_checkBed_35, lw_g_mk tw_762 rfl, lw_g_mk tw_19 rfl, (by decide +kernel), (by decide +kernel), (by decide +kernel), hat_3, hgood_3⟩)) (by decide) (by decide)
      refine x_if_lt C (tgt := 25) dX5_checkBed_6 (by decide) (fun hc8 => ?_) (fun hc8 => ?_)
      · rw [if_pos hc8] at h
        refine x_sub [] rfl ?_
        exact hJ7 _ h hret hthr hout
      · rw [if_neg hc8] at h
        refine x_iload_n C dX5_checkBed_9 rfl 2 rfl ?_
        refine x_aload_n C dX5_checkBed_10 rfl 0 rfl ?_
        refine x_get C (C1 := "HostelBeds") (T := TX5) (N := 12) (ci := 5) inXg5 _ (c_HB) rfl 2 (by decide) (lw_g_mk tw_289 rfl) rfl dX5_checkBed_11 ?_
        obtain ⟨hg9, h⟩ := gd_some h
        refine x_get C (C1 := "HostelBeds$Hostel") (T := TX1) (N := 12) (ci := 1) inXg1 _ (c_Ho hg9) rfl 0 (by decide) (lw_g_mk tw_185 rfl) rfl dX5_checkBed_14 ?_
        refine x_iload_n C dX5_checkBed_17 rfl 1 rfl ?_
        obtain ⟨hg10, h⟩ := gd_some h
        refine x_aldq C _ 5 (C1 := "HostelBeds$Room") (c_Rms hg9) rfl hg10 rfl dX5_checkBed_18 ?_
        refine x_get C (C1 := "HostelBeds$Room") (T := TX4) (N := 5) (ci := 4) inXg4 _ (c_Rm hg9 (inb_lt hg10)) rfl 2 (by decide) (lw_g_mk tw_84 rfl) rfl dX5_checkBed_19 ?_
        refine x_icmp_lt C (tgt := 36) dX5_checkBed_22 (by decide) (fun hc11 => ?_) (fun hc11 => ?_)
        · rw [if_pos hc11] at h
          cases h
          exact hret _ rfl _ _ _ _ dX5_checkBed_36 (by decide) (by decide)
        · rw [if_neg hc11] at h
          refine x_sub [] rfl ?_
          exact hJ7 _ h hret hthr hout
    · cases hv3
  · rcases q1 with x2 | e3
    · cases hv5
    · rw [Sum.elim_inr] at h
      have hv5 : (Sum.inr e3 : Option Value ⊕ Nat) = .inr k4 := hv5
      cases hv5
      cases h
      exact hout _ rfl _ _ _ _ _ (by decide) (by decide)
def jX5_checkNight_10 : Option ((Unit ⊕ Nat)) := (some (.inr 3))
def fX5_checkNight (p1 : Int32) : Option ((Unit ⊕ Nat)) := (if p1 < 0 then (jX5_checkNight_10) else (if p1 < (30 : Int32) then (some (.inl ())) else (jX5_checkNight_10)))
set_option maxHeartbeats 4000000 in
set_option maxRecDepth 100000 in
theorem okX5_checkNight (l : Launch) (hlf : l.stackTraces = false) (cy : Nat → ClassId) (D : va_G) (B : Nat) (ek : EK) (p1 : Int32) (σ μ ω : Mem) (res : (Unit ⊕ Nat)) (h : fX5_checkNight p1 = some res) : CTX l cy D B ek yX5_checkNight cX5_checkNight 1 none ({ frames := 6, cells := 1, slots := 6, locals := 120 } : Room) 1 6 [.int p1] σ μ ω (Sum.map (fun _ => (none : Option Value)) id res) σ μ ω := by
  refine met_XX (own := "HostelBeds") (by decide) rfl (Nat.le_of_ble_eq_true rfl) ?_
  intro p e s m args below meth c C hrT hlk htab
  have hret : ∀ (x9 : Unit), res = .inl x9 → ∀ (cells9 slots9 pc9 : Nat) (lcs9 : List (Nat × Value)), decode cX5_checkNight pc9 = .ok (.return_, 1) → cells9 ≤ 1 → slots9 ≤ 6 → X p l e ({ frames := 6, cells := 1, slots := 6, locals := 120 } : Room) s m args below meth c 1 cy D B cells9 slots9 (vx_MQ below (QX cy D B (Sum.map (fun _ => (none : Option Value)) id res) σ μ ω) (XCX cy D B (Sum.map (fun _ => (none : Option Value)) id res) σ μ ω) args s 1 6 (aB B)) pc9 lcs9 [] σ μ ω := fun x9 hx9 cells9 slots9 pc9 lcs9 hd h1 h2 => by rw [hx9]; exact x_vretX C hrT hlk hd h1 h2
  have hthr : ∀ (k9 : Nat), res = .inr k9 → ∀ (cells9 slots9 pc9 : Nat) (lcs9 : List (Nat × Value)), (ThrowS "HostelBeds" cX5_checkNight pc9 k9 ∨ ThrowSW "HostelBeds" cX5_checkNight pc9 k9 ∨ ThrowN "HostelBeds" cX5_checkNight pc9 k9) → cells9 + 1 ≤ 1 → slots9 + 6 ≤ 6 → X p l e ({ frames := 6, cells := 1, slots := 6, locals := 120 } : Room) s m args below meth c 1 cy D B cells9 slots9 (vx_MQ below (QX cy D B (Sum.map (fun _ => (none : Option Value)) id res) σ μ ω) (XCX cy D B (Sum.map (fun _ => (none : Option Value)) id res) σ μ ω) args s 1 6 (aB B)) pc9 lcs9 [] σ μ ω := fun k9 hx9 cells9 slots9 pc9 lcs9 ht h1 h2 => by
    rw [hx9]
    rcases ht with ht | ht | ht
    · exact x_throwS C hlf ht htab (Nat.le_of_ble_eq_true rfl) (Nat.le_of_ble_eq_true rfl) h1 h2 hlk h1 h2
    · exact x_throwSW C hlf ht htab (Nat.le_of_ble_eq_true rfl) (Nat.le_of_ble_eq_true rfl) h1 h2 hlk h1 h2
    · exact x_throwN C hlf ht htab (Nat.le_of_ble_eq_true rfl) (Nat.le_of_ble_eq_true rfl) h1 h2 hlk h1 h2
  have hout : ∀ (k9 : Nat), res = .inr k9 → ∀ (cells9 slots9 pc9 : Nat) (lcs9 : List (Nat × Value)) (st9 : List Value), cells9 ≤ 1 → slots9 ≤ 6 → XO p l e ({ frames := 6, cells := 1, slots := 6, locals := 120 } : Room) s m args below meth c 1 cy D B cells9 slots9 (vx_MQ below (QX cy D B (Sum.map (fun _ => (none : Option Value)) id res) σ μ ω) (XCX cy D B (Sum.map (fun _ => (none : Option Value)) id res) σ μ ω) args s 1 6 (aB B)) pc9 lcs9 st9 σ μ ω k9 := fun k9 hx9 cells9 slots9 pc9 lcs9 st9 h1 h2 => by rw [hx9]; exact x_out C htab hlk h1 h2
  generalize (vx_MQ below (QX cy D B (Sum.map (fun _ => (none : Option Value)) id res) σ μ ω) (XCX cy D B (Sum.map (fun _ => (none : Option Value)) id res) σ μ ω) args s 1 6 (aB B)) = Q at hret hthr hout ⊢
  obtain ⟨R, hR9⟩ : ∃ R : Room, R = ({ frames := 6, cells := 1, slots := 6, locals := 120 } : Room) := ⟨_, rfl⟩
  rw [← hR9] at hret hthr hout ⊢
  unfold fX5_checkNight at h
  show X p l e R s m args below meth c 1 cy D B 0 0 Q 0 [(0, .int p1)] [] σ μ ω
  refine x_iload_n C dX5_checkNight_0 rfl 0 rfl ?_
  have hJ1 : ∀ (r9 : (Unit ⊕ Nat)), jX5_checkNight_10 = some r9 → (∀ (x9 : Unit), r9 = .inl x9 → ∀ (cells9 slots9 pc9 : Nat) (lcs9 : List (Nat × Value)), decode cX5_checkNight pc9 = .ok (.return_, 1) → cells9 ≤ 1 → slots9 ≤ 6 → X p l e R s m args below meth c 1 cy D B cells9 slots9 Q pc9 lcs9 [] σ μ ω) → (∀ (k9 : Nat), r9 = .inr k9 → ∀ (cells9 slots9 pc9 : Nat) (lcs9 : List (Nat × Value)), (ThrowS "HostelBeds" cX5_checkNight pc9 k9 ∨ ThrowSW "HostelBeds" cX5_checkNight pc9 k9 ∨ ThrowN "HostelBeds" cX5_checkNight pc9 k9) → cells9 + 1 ≤ 1 → slots9 + 6 ≤ 6 → X p l e R s m args below meth c 1 cy D B cells9 slots9 Q pc9 lcs9 [] σ μ ω) → (∀ (k9 : Nat), r9 = .inr k9 → ∀ (cells9 slots9 pc9 : Nat) (lcs9 : List (Nat × Value)) (st9 : List Value), cells9 ≤ 1 → slots9 ≤ 6 → XO p l e R s m args below meth c 1 cy D B cells9 slots9 Q pc9 lcs9 st9 σ μ ω k9) → X p l e R s m args below meth c 1 cy D B 0 0 Q 10 [] [] σ μ ω := by
    intro res9 h hret hthr hout
    unfold jX5_checkNight_10 at h
    cases h
    exact hthr _ rfl _ _ _ _ (Or.inr (Or.inl ⟨192, 356, 196, "no such night", dX5_checkNight_10, dX5_checkNight_13, dX5_checkNight_14, dX5_checkNight_17, dX5_checkNight_20, lw_g_mk tw_762 rfl, lw_g_mk tw_19 rfl, (by decide +kernel), (by decide +kernel), (by decide +kernel), hat_3, hgood_3⟩)) (by decide) (by decide)
  refine x_if_lt C (tgt := 10) dX5_checkNight_1 (by decide) (fun hc2 => ?_) (fun hc2 => ?_)
  · rw [if_pos hc2] at h
    refine x_sub [] rfl ?_
    exact hJ1 _ h hret hthr hout
  · rw [if_neg hc2] at h
    refine x_iload_n C dX5_checkNight_4 rfl 0 rfl ?_
    refine x_bipush C (v := 30) dX5_checkNight_5 (by decide) ?_
    refine x_icmp_lt C (tgt := 21) dX5_checkNight_7 (by decide) (fun hc3 => ?_) (fun hc3 => ?_)
    · rw [if_pos hc3] at h
      cases h
      exact hret _ rfl _ _ _ _ dX5_checkNight_21 (by decide) (by decide)
    · rw [if_neg hc3] at h
      refine x_sub [] rfl ?_
      exact hJ1 _ h hret hthr hout
def jX5_occupant_80 (a21 : Int32) : Option ((Int32) ⊕ ((Unit) ⊕ ((Int32 ⊕ Nat)))) := (some (.inl (a21 + (1 : Int32))))
def stX5_occupant_21 (σ : Mem) (p3 : Int32) (p1 : Int32) (p2 : Int32) (a21 : Int32) : Option ((Int32) ⊕ ((Unit) ⊕ ((Int32 ⊕ Nat)))) := (gd (rP σ 0 < 12) (if (rI σ 22 (rP σ 0) 0) ≤ a21 then (some (.inr (.inl ()))) else (gd (inb a21 17) ((fX0_staysIn (rP σ 0) a21.toNatClampNeg p3 σ).bind fun q7 => (if q7 = 0 then (jX5_occupant_80 a21) else ((fX3_hasBed 0 a21 (rI σ 44 (rP σ 0) a21.toNatClampNeg) ((p1 * (10 : Int32)) + p2) σ).bind fun q8 => (if q8 = 0 then (jX5_occupant_80 a21) else (some (.inr (.inr (.inl a21)))))))))))
def fX5_occupant (p1 : Int32) (p2 : Int32) (p3 : Int32) (σ : Mem) : Option ((Int32 ⊕ Nat)) := ((fX5_checkBed p1 p2 σ).bind fun q1 => Sum.elim (fun x2 => ((fX5_checkNight p3).bind fun q4 => Sum.elim (fun x5 => ((loop (stX5_occupant_21 σ p3 p1 p2) 5000 ((0 : Int32))).bind fun b21 => Sum.elim (fun z21 => (some (.inl (-1 : Int32)))) (fun w21 => (some w21)) b21)) (fun e6 => (some (.inr e6))) q4)) (fun e3 => (some (.inr e3))) q1)
set_option maxHeartbeats 4000000 in
set_option maxRecDepth 100000 in
theorem okX5_occupant (l : Launch) (hlf : l.stackTraces = false) (cy : Nat → ClassId) (D : va_G) (B : Nat) (ek : EK) (p1 : Int32) (p2 : Int32) (p3 : Int32) (σ μ ω : Mem) (res : (Int32 ⊕ Nat)) (h : fX5_occupant p1 p2 p3 σ = some res) : CTX l cy D B ek yX5_occupant cX5_occupant 6 (some .int) ({ frames := 8, cells := 3, slots := 18, locals := 163 } : Room) 3 18 [.ref (B + oHB), .int p1, .int p2, .int p3] σ μ ω (Sum.map (fun x => some (Value.int x)) id res) σ μ ω := by
  refine met_XX (own := "HostelBeds") (by decide) rfl (Nat.le_of_ble_eq_true rfl) ?_
  intro p e s m args below meth c C hrT hlk htab
  have hret : ∀ (x9 : Int32), res = .inl x9 → ∀ (cells9 slots9 pc9 : Nat) (lcs9 : List (Nat × Value)), decode cX5_occupant pc9 = .ok (.ireturn, 1) → narrow .int (.int x9) = .int x9 → cells9 ≤ 3 → slots9 ≤ 18 → X p l e ({ frames := 8, cells := 3, slots := 18, locals := 163 } : Room) s m args below meth c 6 cy D B cells9 slots9 (vx_MQ below (QX cy D B (Sum.map (fun x => some (Value.int x)) id res) σ μ ω) (XCX cy D B (Sum.map (fun x => some (Value.int x)) id res) σ μ ω) args s 3 18 (aB B)) pc9 lcs9 [.int x9] σ μ ω := fun x9 hx9 cells9 slots9 pc9 lcs9 hd hn h1 h2 => by rw [hx9]; exact x_zretX C hrT hlk hn hd h1 h2
  have hout : ∀ (k9 : Nat), res = .inr k9 → ∀ (cells9 slots9 pc9 : Nat) (lcs9 : List (Nat × Value)) (st9 : List Value), cells9 ≤ 3 → slots9 ≤ 18 → XO p l e ({ frames := 8, cells := 3, slots := 18, locals := 163 } : Room) s m args below meth c 6 cy D B cells9 slots9 (vx_MQ below (QX cy D B (Sum.map (fun x => some (Value.int x)) id res) σ μ ω) (XCX cy D B (Sum.map (fun x => some (Value.int x)) id res) σ μ ω) args s 3 18 (aB B)) pc9 lcs9 st9 σ μ ω k9 := fun k9 hx9 cells9 slots9 pc9 lcs9 st9 h1 h2 => by rw [hx9]; exact x_out C htab hlk h1 h2
  have hthr : True := trivial
  generalize (vx_MQ below (QX cy D B (Sum.map (fun x => some (Value.int x)) id res) σ μ ω) (XCX cy D B (Sum.map (fun x => some (Value.int x)) id res) σ μ ω) args s 3 18 (aB B)) = Q at hret hthr hout ⊢
  obtain ⟨R, hR9⟩ : ∃ R : Room, R = ({ frames := 8, cells := 3, slots := 18, locals := 163 } : Room) := ⟨_, rfl⟩
  rw [← hR9] at hret hout ⊢
  unfold fX5_occupant at h
  show X p l e R s m args below meth c 6 cy D B 0 0 Q 0 [(0, .ref (B + oHB)), (1, .int p1), (2, .int p2), (3, .int p3)] [] σ μ ω
  refine x_aload_n C dX5_occupant_0 rfl 0 rfl ?_
  refine x_iload_n C dX5_occupant_1 rfl 1 rfl ?_
  refine x_iload_n C dX5_occupant_2 rfl 2 rfl ?_
  obtain ⟨q1, hk1, h⟩ := Option.bind_eq_some_iff.mp h
  refine x_callVX C (As := [.int p1, .int p2]) (rest := []) (cells2 := 2) (slots2 := 12) (lw_g_mk tw_884 rfl) (lw_g_mk tsel_6 rfl) (c_HB) (C1 := "HostelBeds") (T := TX5) (N := 12) (ci := 5) rfl (okX5_checkBed l hlf cy D B ek p1 p2 σ μ ω _ hk1) rfl rfl (by rw [hR9]; decide) (lw_g_mk tw_885 rfl) (lw_g_mk tw_1 rfl) (by decide) rfl (lw_g_mk tw_882 rfl) rfl (Nat.le_of_ble_eq_true rfl) dX5_occupant_3 (by rw [hR9]; decide) rfl rfl (fun v2 hv3 => ?_) (fun k4 hv5 => ?_)
  · rcases q1 with x2 | e3
    · rw [Sum.elim_inl] at h
      have hv3 : (Sum.inl (none) : Option Value ⊕ Nat) = .inl v2 := hv3
      cases hv3
      refine x_iload_n C dX5_occupant_6 rfl 3 rfl ?_
      obtain ⟨q4, hk7, h⟩ := Option.bind_eq_some_iff.mp h
      refine x_callSX C (As := [.int p3]) (rest := []) (cells2 := 3) (slots2 := 18) (lw_g_mk tw_888 rfl) (okX5_checkNight l hlf cy D B ek p3 σ μ ω _ hk7) rfl rfl (by rw [hR9]; decide) (lw_g_mk tw_889 rfl) (lw_g_mk tw_1 rfl) (by decide) rfl (lw_g_mk tw_887 rfl) rfl (Nat.le_of_ble_eq_true rfl) dX5_occupant_7 (by rw [hR9]; decide) rfl rfl (fun v8 hv9 => ?_) (fun k10 hv11 => ?_)
      · rcases q4 with x5 | e6
        · rw [Sum.elim_inl] at h
          have hv9 : (Sum.inl (none) : Option Value ⊕ Nat) = .inl v8 := hv9
          cases hv9
          refine x_iload_n C dX5_occupant_10 rfl 1 rfl ?_
          refine x_bipush C (v := 10) dX5_occupant_11 (by decide) ?_
          refine x_imul C dX5_occupant_13 ?_
          refine x_iload_n C dX5_occupant_14 rfl 2 rfl ?_
          refine x_iadd C dX5_occupant_15 ?_
          refine x_istore C [(4, .int ((p1 * (10 : Int32)) + p2)), (0, .ref (B + oHB)), (1, .int p1), (2, .int p2), (3, .int p3)] dX5_occupant_16 (by decide) rfl ?_
          refine x_iconst C (v := 0) dX5_occupant_18 (by decide) ?_
          refine x_istore C [(5, .int (0 : Int32)), (4, .int ((p1 * (10 : Int32)) + p2)), (0, .ref (B + oHB)), (1, .int p1), (2, .int p2), (3, .int p3)] dX5_occupant_19 (by decide) rfl ?_
          obtain ⟨b21, hk23, h⟩ := Option.bind_eq_some_iff.mp h
          refine x_sub [2, 5, 1, 0] rfl ?_
          refine loop_run (step := stX5_occupant_21 σ p3 p1 p2) (P := fun (a21 : Int32) => X p l e R s m args below meth c 6 cy D B 3 18 Q 21 [(0, .ref (B + oHB)), (3, .int p3), (4, .int ((p1 * (10 : Int32)) + p2)), (5, .int a21)] [] σ μ ω) (K := fun (b21 : (Unit) ⊕ ((Int32 ⊕ Nat))) => Sum.elim (fun z21 => X p l e R s m args below meth c 6 cy D B 3 18 Q 86 [] [] σ μ ω) (fun w21 => ∀ (x9 : Int32), w21 = .inl x9 → ∀ (cells9 slots9 pc9 : Nat) (lcs9 : List (Nat × Value)), decode cX5_occupant pc9 = .ok (.ireturn, 1) → narrow .int (.int x9) = .int x9 → cells9 ≤ 3 → slots9 ≤ 18 → X p l e R s m args below meth c 6 cy D B cells9 slots9 Q pc9 lcs9 [.int x9] σ μ ω) b21) ?_ 5000 ((0 : Int32)) b21 hk23 ?_
          · intro a21 r h hA13 hB14
            unfold stX5_occupant_21 at h
            refine x_iload C dX5_occupant_21 3 rfl ?_
            refine x_aload_n C dX5_occupant_23 rfl 0 rfl ?_
            refine x_get C (C1 := "HostelBeds") (T := TX5) (N := 12) (ci := 5) inXg5 _ (c_HB) rfl 2 (by decide) (lw_g_mk tw_289 rfl) rfl dX5_occupant_24 ?_
            obtain ⟨hg15, h⟩ := gd_some h
            refine x_get C (C1 := "HostelBeds$Hostel") (T := TX1) (N := 12) (ci := 1) inXg1 _ (c_Ho hg15) rfl 4 (by decide) (lw_g_mk tw_200 rfl) rfl dX5_occupant_27 ?_
            refine x_icmp_ge C (tgt := 86) dX5_occupant_30 (by decide) (fun hc16 => ?_) (fun hc16 => ?_)
            · rw [if_pos hc16] at h
              cases h
              refine x_sub [] rfl ?_
              exact hB14 (.inl ()) rfl
            · rw [if_neg hc16] at h
              refine x_aload_n C dX5_occupant_33 rfl 0 rfl ?_
              refine x_get C (C1 := "HostelBeds") (T := TX5) (N := 12) (ci := 5) inXg5 _ (c_HB) rfl 2 (by decide) (lw_g_mk tw_289 rfl) rfl dX5_occupant_34 ?_
              refine x_get C (C1 := "HostelBeds$Hostel") (T := TX1) (N := 12) (ci := 1) inXg1 _ (c_Ho hg15) rfl 3 (by decide) (lw_g_mk tw_197 rfl) rfl dX5_occupant_37 ?_
              refine x_iload C dX5_occupant_40 3 rfl ?_
              obtain ⟨hg17, h⟩ := gd_some h
              refine x_aldq C _ 6 (C1 := "HostelBeds$Booking") (c_Bks hg15) rfl hg17 rfl dX5_occupant_42 ?_
              refine x_iload_n C dX5_occupant_43 rfl 1 rfl ?_
              obtain ⟨q7, hk18, h⟩ := Option.bind_eq_some_iff.mp h
              refine x_callV C (As := [.int p3]) (rest := []) (lw_g_mk tw_394 rfl) (lw_g_mk tw_395 rfl) (c_Bk hg15 (inb_lt hg17)) (C1 := "HostelBeds$Booking") (T := TX0) (N := 11) (ci := 0) rfl (okX0_staysIn l cy D B ek (rP σ 0) a21.toNatClampNeg p3 σ μ ω hg15 (inb_lt hg17) _ hk18) rfl rfl (by rw [hR9]; decide) (lw_g_mk tw_396 rfl) (lw_g_mk tw_5 rfl) (by decide) rfl (lw_g_mk tw_891 rfl) rfl (Nat.le_of_ble_eq_true rfl) dX5_occupant_44 (by rw [hR9]; decide) ?_
              have hJ19 : ∀ (r9 : (Int32) ⊕ ((Unit) ⊕ ((Int32 ⊕ Nat)))), jX5_occupant_80 a21 = some r9 → (∀ a2, r9 = .inl a2 → (fun (a21 : Int32) => X p l e R s m args below meth c 6 cy D B 3 18 Q 21 [(0, .ref (B + oHB)), (3, .int p3), (4, .int ((p1 * (10 : Int32)) + p2)), (5, .int a21)] [] σ μ ω) a2) → (∀ b2, r9 = .inr b2 → (fun (b21 : (Unit) ⊕ ((Int32 ⊕ Nat))) => Sum.elim (fun z21 => X p l e R s m args below meth c 6 cy D B 3 18 Q 86 [] [] σ μ ω) (fun w21 => ∀ (x9 : Int32), w21 = .inl x9 → ∀ (cells9 slots9 pc9 : Nat) (lcs9 : List (Nat × Value)), decode cX5_occupant pc9 = .ok (.ireturn, 1) → narrow .int (.int x9) = .int x9 → cells9 ≤ 3 → slots9 ≤ 18 → X p l e R s m args below meth c 6 cy D B cells9 slots9 Q pc9 lcs9 [.int x9] σ μ ω) b21) b2) → X p l e R s m args below meth c 6 cy D B 3 18 Q 80 [(0, .ref (B + oHB)), (3, .int p3), (4, .int ((p1 * (10 : Int32)) + p2)), (5, .int a21)] [] σ μ ω := by
                intro r h hA13 hB14
                unfold jX5_occupant_80 at h
                refine x_iinc C (k := 3) [(5, .int (a21 + (1 : Int32))), (0, .ref (B + oHB)), (3, .int p3), (4, .int ((p1 * (10 : Int32)) + p2))] dX5_occupant_80 rfl rfl (by decide) rfl ?_
                refine x_goto C (tgt := 21) dX5_occupant_83 (by decide) ?_
                cases h
                refine x_sub [1, 2, 3, 0] rfl ?_
                exact hA13 (a21 + (1 : Int32)) rfl
              refine x_if_eq C (tgt := 80) dX5_occupant_47 (by decide) (fun hc20 => ?_) (fun hc20 => ?_)
              · rw [if_pos hc20] at h
                exact hJ19 _ h hA13 hB14
              · rw [if_neg hc20] at h
                refine x_aload_n C dX5_occupant_50 rfl 0 rfl ?_
                refine x_get C (C1 := "HostelBeds") (T := TX5) (N := 12) (ci := 5) inXg5 _ (c_HB) rfl 4 (by decide) (lw_g_mk tw_291 rfl) rfl dX5_occupant_51 ?_
                refine x_iload C dX5_occupant_54 3 rfl ?_
                refine x_aload_n C dX5_occupant_56 rfl 0 rfl ?_
                refine x_get C (C1 := "HostelBeds") (T := TX5) (N := 12) (ci := 5) inXg5 _ (c_HB) rfl 2 (by decide) (lw_g_mk tw_289 rfl) rfl dX5_occupant_57 ?_
                refine x_get C (C1 := "HostelBeds$Hostel") (T := TX1) (N := 12) (ci := 1) inXg1 _ (c_Ho hg15) rfl 3 (by decide) (lw_g_mk tw_197 rfl) rfl dX5_occupant_60 ?_
                refine x_iload C dX5_occupant_63 3 rfl ?_
                refine x_aldq C _ 6 (C1 := "HostelBeds$Booking") (c_Bks hg15) rfl hg17 rfl dX5_occupant_65 ?_
                refine x_get C (C1 := "HostelBeds$Booking") (T := TX0) (N := 11) (ci := 0) inXg0 _ (c_Bk hg15 (inb_lt hg17)) rfl 5 (by decide) (lw_g_mk tw_134 rfl) rfl dX5_occupant_66 ?_
                refine x_iload C dX5_occupant_69 2 rfl ?_
                obtain ⟨q8, hk21, h⟩ := Option.bind_eq_some_iff.mp h
                refine x_callV C (As := [.int a21, .int (rI σ 44 (rP σ 0) a21.toNatClampNeg), .int ((p1 * (10 : Int32)) + p2)]) (rest := []) (lw_g_mk tw_893 rfl) (lw_g_mk tw_894 rfl) (c_Pl (by decide)) (C1 := "HostelBeds$Plan") (T := TX3) (N := 8) (ci := 3) rfl (okX3_hasBed l cy D B ek 0 a21 (rI σ 44 (rP σ 0) a21.toNatClampNeg) ((p1 * (10 : Int32)) + p2) σ μ ω (by decide) _ hk21) rfl rfl (by rw [hR9]; decide) (lw_g_mk tw_895 rfl) (lw_g_mk tw_6 rfl) (by decide) rfl (lw_g_mk tw_892 rfl) rfl (Nat.le_of_ble_eq_true rfl) dX5_occupant_71 (by rw [hR9]; decide) ?_
                refine x_if_eq C (tgt := 80) dX5_occupant_74 (by decide) (fun hc22 => ?_) (fun hc22 => ?_)
                · rw [if_pos hc22] at h
                  exact hJ19 _ h hA13 hB14
                · rw [if_neg hc22] at h
                  refine x_iload C dX5_occupant_77 3 rfl ?_
                  cases h
                  exact hB14 (.inr (.inl a21)) rfl _ rfl _ _ _ _ dX5_occupant_79 rfl (by decide) (by decide)
          · rcases b21 with z21 | w21
            · rw [Sum.elim_inl] at h
              show X p l e R s m args below meth c 6 cy D B 3 18 Q 86 [] [] σ μ ω
              refine x_iconst C (v := -1) dX5_occupant_86 (by decide) ?_
              cases h
              exact hret _ rfl _ _ _ _ dX5_occupant_87 rfl (by decide) (by decide)
            · rw [Sum.elim_inr] at h
              show ∀ (x9 : Int32), w21 = .inl x9 → ∀ (cells9 slots9 pc9 : Nat) (lcs9 : List (Nat × Value)), decode cX5_occupant pc9 = .ok (.ireturn, 1) → narrow .int (.int x9) = .int x9 → cells9 ≤ 3 → slots9 ≤ 18 → X p l e R s m args below meth c 6 cy D B cells9 slots9 Q pc9 lcs9 [.int x9] σ μ ω
              cases h
              exact hret
        · cases hv9
      · rcases q4 with x5 | e6
        · cases hv11
        · rw [Sum.elim_inr] at h
          have hv11 : (Sum.inr e6 : Option Value ⊕ Nat) = .inr k10 := hv11
          cases hv11
          cases h
          exact hout _ rfl _ _ _ _ _ (by decide) (by decide)
    · cases hv3
  · rcases q1 with x2 | e3
    · cases hv5
    · rw [Sum.elim_inr] at h
      have hv5 : (Sum.inr e3 : Option Value ⊕ Nat) = .inr k4 := hv5
      cases hv5
      cases h
      exact hout _ rfl _ _ _ _ _ (by decide) (by decide)
def fX5_freeBeds (p1 : Int32) (p2 : Int32) (σ : Mem) : Option ((Int32 ⊕ Nat)) := ((fX5_checkRoom p1 σ).bind fun q1 => Sum.elim (fun x2 => ((fX5_checkNight p2).bind fun q4 => Sum.elim (fun x5 => (gd (rP σ 0 < 12) (gd (inb p1 8) ((fX3_taken 0 p1 p2 σ).bind fun q7 => (some (.inl ((rI σ 31 (rP σ 0) p1.toNatClampNeg) - q7))))))) (fun e6 => (some (.inr e6))) q4)) (fun e3 => (some (.inr e3))) q1)
set_option maxHeartbeats 4000000 in
set_option maxRecDepth 100000 in
theorem okX5_freeBeds (l : Launch) (hlf : l.stackTraces = false) (cy : Nat → ClassId) (D : va_G) (B : Nat) (ek : EK) (p1 : Int32) (p2 : Int32) (σ μ ω : Mem) (res : (Int32 ⊕ Nat)) (h : fX5_freeBeds p1 p2 σ = some res) : CTX l cy D B ek yX5_freeBeds cX5_freeBeds 3 (some .int) ({ frames := 7, cells := 2, slots := 12, locals := 141 } : Room) 2 12 [.ref (B + oHB), .int p1, .int p2] σ μ ω (Sum.map (fun x => some (Value.int x)) id res) σ μ ω := by
  refine met_XX (own := "HostelBeds") (by decide) rfl (Nat.le_of_ble_eq_true rfl) ?_
  intro p e s m args below meth c C hrT hlk htab
  have hret : ∀ (x9 : Int32), res = .inl x9 → ∀ (cells9 slots9 pc9 : Nat) (lcs9 : List (Nat × Value)), decode cX5_freeBeds pc9 = .ok (.ireturn, 1) → narrow .int (.int x9) = .int x9 → cells9 ≤ 2 → slots9 ≤ 12 → X p l e ({ frames := 7, cells := 2, slots := 12, locals := 141 } : Room) s m args below meth c 3 cy D B cells9 slots9 (vx_MQ below (QX cy D B (Sum.map (fun x => some (Value.int x)) id res) σ μ ω) (XCX cy D B (Sum.map (fun x => some (Value.int x)) id res) σ μ ω) args s 2 12 (aB B)) pc9 lcs9 [.int x9] σ μ ω := fun x9 hx9 cells9 slots9 pc9 lcs9 hd hn h1 h2 => by rw [hx9]; exact x_zretX C hrT hlk hn hd h1 h2
  have hout : ∀ (k9 : Nat), res = .inr k9 → ∀ (cells9 slots9 pc9 : Nat) (lcs9 : List (Nat × Value)) (st9 : List Value), cells9 ≤ 2 → slots9 ≤ 12 → XO p l e ({ frames := 7, cells := 2, slots := 12, locals := 141 } : Room) s m args below meth c 3 cy D B cells9 slots9 (vx_MQ below (QX cy D B (Sum.map (fun x => some (Value.int x)) id res) σ μ ω) (XCX cy D B (Sum.map (fun x => some (Value.int x)) id res) σ μ ω) args s 2 12 (aB B)) pc9 lcs9 st9 σ μ ω k9 := fun k9 hx9 cells9 slots9 pc9 lcs9 st9 h1 h2 => by rw [hx9]; exact x_out C htab hlk h1 h2
  have hthr : True := trivial
  generalize (vx_MQ below (QX cy D B (Sum.map (fun x => some (Value.int x)) id res) σ μ ω) (XCX cy D B (Sum.map (fun x => some (Value.int x)) id res) σ μ ω) args s 2 12 (aB B)) = Q at hret hthr hout ⊢
  obtain ⟨R, hR9⟩ : ∃ R : Room, R = ({ frames := 7, cells := 2, slots := 12, locals := 141 } : Room) := ⟨_, rfl⟩
  rw [← hR9] at hret hout ⊢
  unfold fX5_freeBeds at h
  show X p l e R s m args below meth c 3 cy D B 0 0 Q 0 [(0, .ref (B + oHB)), (1, .int p1), (2, .int p2)] [] σ μ ω
  refine x_aload_n C dX5_freeBeds_0 rfl 0 rfl ?_
  refine x_iload_n C dX5_freeBeds_1 rfl 1 rfl ?_
  obtain ⟨q1, hk1, h⟩ := Option.bind_eq_some_iff.mp h
  refine x_callVX C (As := [.int p1]) (rest := []) (cells2 := 1) (slots2 := 6) (lw_g_mk tw_760 rfl) (lw_g_mk tsel_3 rfl) (c_HB) (C1 := "HostelBeds") (T := TX5) (N := 12) (ci := 5) rfl (okX5_checkRoom l hlf cy D B ek p1 σ μ ω _ hk1) rfl rfl (by rw [hR9]; decide) (lw_g_mk tw_761 rfl) (lw_g_mk tw_1 rfl) (by decide) rfl (lw_g_mk tw_758 rfl) rfl (Nat.le_of_ble_eq_true rfl) dX5_freeBeds_2 (by rw [hR9]; decide) rfl rfl (fun v2 hv3 => ?_) (fun k4 hv5 => ?_)
  · rcases q1 with x2 | e3
    · rw [Sum.elim_inl] at h
      have hv3 : (Sum.inl (none) : Option Value ⊕ Nat) = .inl v2 := hv3
      cases hv3
      refine x_iload_n C dX5_freeBeds_5 rfl 2 rfl ?_
      obtain ⟨q4, hk7, h⟩ := Option.bind_eq_some_iff.mp h
      refine x_callSX C (As := [.int p2]) (rest := []) (cells2 := 2) (slots2 := 12) (lw_g_mk tw_888 rfl) (okX5_checkNight l hlf cy D B ek p2 σ μ ω _ hk7) rfl rfl (by rw [hR9]; decide) (lw_g_mk tw_889 rfl) (lw_g_mk tw_1 rfl) (by decide) rfl (lw_g_mk tw_887 rfl) rfl (Nat.le_of_ble_eq_true rfl) dX5_freeBeds_6 (by rw [hR9]; decide) rfl rfl (fun v8 hv9 => ?_) (fun k10 hv11 => ?_)
      · rcases q4 with x5 | e6
        · rw [Sum.elim_inl] at h
          have hv9 : (Sum.inl (none) : Option Value ⊕ Nat) = .inl v8 := hv9
          cases hv9
          refine x_aload_n C dX5_freeBeds_9 rfl 0 rfl ?_
          refine x_get C (C1 := "HostelBeds") (T := TX5) (N := 12) (ci := 5) inXg5 _ (c_HB) rfl 2 (by decide) (lw_g_mk tw_289 rfl) rfl dX5_freeBeds_10 ?_
          obtain ⟨hg13, h⟩ := gd_some h
          refine x_get C (C1 := "HostelBeds$Hostel") (T := TX1) (N := 12) (ci := 1) inXg1 _ (c_Ho hg13) rfl 0 (by decide) (lw_g_mk tw_185 rfl) rfl dX5_freeBeds_13 ?_
          refine x_iload_n C dX5_freeBeds_16 rfl 1 rfl ?_
          obtain ⟨hg14, h⟩ := gd_some h
          refine x_aldq C _ 5 (C1 := "HostelBeds$Room") (c_Rms hg13) rfl hg14 rfl dX5_freeBeds_17 ?_
          refine x_get C (C1 := "HostelBeds$Room") (T := TX4) (N := 5) (ci := 4) inXg4 _ (c_Rm hg13 (inb_lt hg14)) rfl 2 (by decide) (lw_g_mk tw_84 rfl) rfl dX5_freeBeds_18 ?_
          refine x_aload_n C dX5_freeBeds_21 rfl 0 rfl ?_
          refine x_get C (C1 := "HostelBeds") (T := TX5) (N := 12) (ci := 5) inXg5 _ (c_HB) rfl 4 (by decide) (lw_g_mk tw_291 rfl) rfl dX5_freeBeds_22 ?_
          refine x_iload_n C dX5_freeBeds_25 rfl 1 rfl ?_
          refine x_iload_n C dX5_freeBeds_26 rfl 2 rfl ?_
          obtain ⟨q7, hk15, h⟩ := Option.bind_eq_some_iff.mp h
          refine x_callV C (As := [.int p1, .int p2]) (rest := [.int (rI σ 31 (rP σ 0) p1.toNatClampNeg)]) (lw_g_mk tw_339 rfl) (lw_g_mk tw_340 rfl) (c_Pl (by decide)) (C1 := "HostelBeds$Plan") (T := TX3) (N := 8) (ci := 3) rfl (okX3_taken l cy D B ek 0 p1 p2 σ μ ω (by decide) _ hk15) rfl rfl (by rw [hR9]; decide) (lw_g_mk tw_341 rfl) (lw_g_mk tw_6 rfl) (by decide) rfl (lw_g_mk tw_338 rfl) rfl (Nat.le_of_ble_eq_true rfl) dX5_freeBeds_27 (by rw [hR9]; decide) ?_
          refine x_isub C dX5_freeBeds_30 ?_
          cases h
          exact hret _ rfl _ _ _ _ dX5_freeBeds_31 rfl (by decide) (by decide)
        · cases hv9
      · rcases q4 with x5 | e6
        · cases hv11
        · rw [Sum.elim_inr] at h
          have hv11 : (Sum.inr e6 : Option Value ⊕ Nat) = .inr k10 := hv11
          cases hv11
          cases h
          exact hout _ rfl _ _ _ _ _ (by decide) (by decide)
    · cases hv3
  · rcases q1 with x2 | e3
    · cases hv5
    · rw [Sum.elim_inr] at h
      have hv5 : (Sum.inr e3 : Option Value ⊕ Nat) = .inr k4 := hv5
      cases hv5
      cases h
      exact hout _ rfl _ _ _ _ _ (by decide) (by decide)
def stX5_takenBeds_4 (σ : Mem) (p1 : Int32) (a4 : Int32 × Int32) : Option ((Int32 × Int32) ⊕ (Int32)) := (gd (rP σ 0 < 12) (if (rI σ 20 (rP σ 0) 0) ≤ a4.2 then (some (.inr a4.1)) else ((fX3_taken 0 a4.2 p1 σ).bind fun q1 => (some (.inl (a4.1 + q1, a4.2 + (1 : Int32)))))))
def fX5_takenBeds (p1 : Int32) (σ : Mem) : Option (Int32) := ((loop (stX5_takenBeds_4 σ p1) 5000 ((0 : Int32), (0 : Int32))).bind fun b4 => (some b4))
set_option maxHeartbeats 4000000 in
set_option maxRecDepth 100000 in
theorem okX5_takenBeds (l : Launch) (cy : Nat → ClassId) (D : va_G) (B : Nat) (ek : EK) (p1 : Int32) (σ μ ω : Mem) (res : Int32) (h : fX5_takenBeds p1 σ = some res) : CT l cy D B ek yX5_takenBeds cX5_takenBeds 4 (some .int) ({ frames := 2, cells := 0, slots := 0, locals := 46 } : Room) [.ref (B + oHB), .int p1] σ μ ω (some (.int res)) σ μ ω := by
  refine met_X (own := "HostelBeds") (by decide) rfl (Nat.le_of_ble_eq_true rfl) ?_
  intro p e s m args below meth c C hrT hlk
  have hret : ∀ (pc9 : Nat) (lcs9 : List (Nat × Value)), decode cX5_takenBeds pc9 = .ok (.ireturn, 1) → narrow .int (.int res) = .int res → X p l e ({ frames := 2, cells := 0, slots := 0, locals := 46 } : Room) s m args below meth c 4 cy D B 0 0 (MQ below (QR cy D B (some (.int res)) σ μ ω) args s 0 0 (aB B)) pc9 lcs9 [.int res] σ μ ω := fun _ _ hd hn => x_zret C hrT hlk hn hd
  generalize (MQ below (QR cy D B (some (.int res)) σ μ ω) args s 0 0 (aB B)) = Q at hret ⊢
  obtain ⟨R, hR9⟩ : ∃ R : Room, R = ({ frames := 2, cells := 0, slots := 0, locals := 46 } : Room) := ⟨_, rfl⟩
  rw [← hR9] at hret ⊢
  unfold fX5_takenBeds at h
  show X p l e R s m args below meth c 4 cy D B 0 0 Q 0 [(0, .ref (B + oHB)), (1, .int p1)] [] σ μ ω
  refine x_iconst C (v := 0) dX5_takenBeds_0 (by decide) ?_
  refine x_istore_n C [(2, .int (0 : Int32)), (0, .ref (B + oHB)), (1, .int p1)] dX5_takenBeds_1 rfl (by decide) rfl ?_
  refine x_iconst C (v := 0) dX5_takenBeds_2 (by decide) ?_
  refine x_istore_n C [(3, .int (0 : Int32)), (2, .int (0 : Int32)), (0, .ref (B + oHB)), (1, .int p1)] dX5_takenBeds_3 rfl (by decide) rfl ?_
  obtain ⟨b4, hk6, h⟩ := Option.bind_eq_some_iff.mp h
  refine x_sub [2, 3, 1, 0] rfl ?_
  refine loop_run (step := stX5_takenBeds_4 σ p1) (P := fun (a4 : Int32 × Int32) => X p l e R s m args below meth c 4 cy D B 0 0 Q 4 [(0, .ref (B + oHB)), (1, .int p1), (2, .int a4.1), (3, .int a4.2)] [] σ μ ω) (K := fun (b4 : Int32) => X p l e R s m args below meth c 4 cy D B 0 0 Q 33 [(2, .int b4)] [] σ μ ω) ?_ 5000 ((0 : Int32), (0 : Int32)) b4 hk6 ?_
  · intro a4 r h hA1 hB2
    unfold stX5_takenBeds_4 at h
    refine x_iload_n C dX5_takenBeds_4 rfl 3 rfl ?_
    refine x_aload_n C dX5_takenBeds_5 rfl 0 rfl ?_
    refine x_get C (C1 := "HostelBeds") (T := TX5) (N := 12) (ci := 5) inXg5 _ (c_HB) rfl 2 (by decide) (lw_g_mk tw_289 rfl) rfl dX5_takenBeds_6 ?_
    obtain ⟨hg3, h⟩ := gd_some h
    refine x_get C (C1 := "HostelBeds$Hostel") (T := TX1) (N := 12) (ci := 1) inXg1 _ (c_Ho hg3) rfl 1 (by decide) (lw_g_mk tw_189 rfl) rfl dX5_takenBeds_9 ?_
    refine x_icmp_ge C (tgt := 33) dX5_takenBeds_12 (by decide) (fun hc4 => ?_) (fun hc4 => ?_)
    · rw [if_pos hc4] at h
      cases h
      refine x_sub [2] rfl ?_
      exact hB2 a4.1 rfl
    · rw [if_neg hc4] at h
      refine x_iload_n C dX5_takenBeds_15 rfl 2 rfl ?_
      refine x_aload_n C dX5_takenBeds_16 rfl 0 rfl ?_
      refine x_get C (C1 := "HostelBeds") (T := TX5) (N := 12) (ci := 5) inXg5 _ (c_HB) rfl 4 (by decide) (lw_g_mk tw_291 rfl) rfl dX5_takenBeds_17 ?_
      refine x_iload_n C dX5_takenBeds_20 rfl 3 rfl ?_
      refine x_iload_n C dX5_takenBeds_21 rfl 1 rfl ?_
      obtain ⟨q1, hk5, h⟩ := Option.bind_eq_some_iff.mp h
      refine x_callV C (As := [.int a4.2, .int p1]) (rest := [.int a4.1]) (lw_g_mk tw_339 rfl) (lw_g_mk tw_340 rfl) (c_Pl (by decide)) (C1 := "HostelBeds$Plan") (T := TX3) (N := 8) (ci := 3) rfl (okX3_taken l cy D B ek 0 a4.2 p1 σ μ ω (by decide) _ hk5) rfl rfl (by rw [hR9]; decide) (lw_g_mk tw_341 rfl) (lw_g_mk tw_6 rfl) (by decide) rfl (lw_g_mk tw_338 rfl) rfl (Nat.le_of_ble_eq_true rfl) dX5_takenBeds_22 (by rw [hR9]; decide) ?_
      refine x_iadd C dX5_takenBeds_25 ?_
      refine x_istore_n C [(2, .int (a4.1 + q1)), (0, .ref (B + oHB)), (1, .int p1), (3, .int a4.2)] dX5_takenBeds_26 rfl (by decide) rfl ?_
      refine x_iinc C (k := 3) [(3, .int (a4.2 + (1 : Int32))), (2, .int (a4.1 + q1)), (0, .ref (B + oHB)), (1, .int p1)] dX5_takenBeds_27 rfl rfl (by decide) rfl ?_
      refine x_goto C (tgt := 4) dX5_takenBeds_30 (by decide) ?_
      cases h
      refine x_sub [2, 3, 1, 0] rfl ?_
      exact hA1 (a4.1 + q1, a4.2 + (1 : Int32)) rfl
  · show X p l e R s m args below meth c 4 cy D B 0 0 Q 33 [(2, .int b4)] [] σ μ ω
    refine x_iload_n C dX5_takenBeds_33 rfl 0 rfl ?_
    cases h
    exact hret _ _ dX5_takenBeds_34 rfl
def fX5_occupied (p1 : Int32) (σ : Mem) : Option ((Int32 ⊕ Nat)) := ((fX5_checkNight p1).bind fun q1 => Sum.elim (fun x2 => ((fX5_takenBeds p1 σ).bind fun q4 => (some (.inl q4)))) (fun e3 => (some (.inr e3))) q1)
set_option maxHeartbeats 4000000 in
set_option maxRecDepth 100000 in
theorem okX5_occupied (l : Launch) (hlf : l.stackTraces = false) (cy : Nat → ClassId) (D : va_G) (B : Nat) (ek : EK) (p1 : Int32) (σ μ ω : Mem) (res : (Int32 ⊕ Nat)) (h : fX5_occupied p1 σ = some res) : CTX l cy D B ek yX5_occupied cX5_occupied 2 (some .int) ({ frames := 7, cells := 1, slots := 6, locals := 140 } : Room) 1 6 [.ref (B + oHB), .int p1] σ μ ω (Sum.map (fun x => some (Value.int x)) id res) σ μ ω := by
  refine met_XX (own := "HostelBeds") (by decide) rfl (Nat.le_of_ble_eq_true rfl) ?_
  intro p e s m args below meth c C hrT hlk htab
  have hret : ∀ (x9 : Int32), res = .inl x9 → ∀ (cells9 slots9 pc9 : Nat) (lcs9 : List (Nat × Value)), decode cX5_occupied pc9 = .ok (.ireturn, 1) → narrow .int (.int x9) = .int x9 → cells9 ≤ 1 → slots9 ≤ 6 → X p l e ({ frames := 7, cells := 1, slots := 6, locals := 140 } : Room) s m args below meth c 2 cy D B cells9 slots9 (vx_MQ below (QX cy D B (Sum.map (fun x => some (Value.int x)) id res) σ μ ω) (XCX cy D B (Sum.map (fun x => some (Value.int x)) id res) σ μ ω) args s 1 6 (aB B)) pc9 lcs9 [.int x9] σ μ ω := fun x9 hx9 cells9 slots9 pc9 lcs9 hd hn h1 h2 => by rw [hx9]; exact x_zretX C hrT hlk hn hd h1 h2
  have hout : ∀ (k9 : Nat), res = .inr k9 → ∀ (cells9 slots9 pc9 : Nat) (lcs9 : List (Nat × Value)) (st9 : List Value), cells9 ≤ 1 → slots9 ≤ 6 → XO p l e ({ frames := 7, cells := 1, slots := 6, locals := 140 } : Room) s m args below meth c 2 cy D B cells9 slots9 (vx_MQ below (QX cy D B (Sum.map (fun x => some (Value.int x)) id res) σ μ ω) (XCX cy D B (Sum.map (fun x => some (Value.int x)) id res) σ μ ω) args s 1 6 (aB B)) pc9 lcs9 st9 σ μ ω k9 := fun k9 hx9 cells9 slots9 pc9 lcs9 st9 h1 h2 => by rw [hx9]; exact x_out C htab hlk h1 h2
  have hthr : True := trivial
  generalize (vx_MQ below (QX cy D B (Sum.map (fun x => some (Value.int x)) id res) σ μ ω) (XCX cy D B (Sum.map (fun x => some (Value.int x)) id res) σ μ ω) args s 1 6 (aB B)) = Q at hret hthr hout ⊢
  obtain ⟨R, hR9⟩ : ∃ R : Room, R = ({ frames := 7, cells := 1, slots := 6, locals := 140 } : Room) := ⟨_, rfl⟩
  rw [← hR9] at hret hout ⊢
  unfold fX5_occupied at h
  show X p l e R s m args below meth c 2 cy D B 0 0 Q 0 [(0, .ref (B + oHB)), (1, .int p1)] [] σ μ ω
  refine x_iload_n C dX5_occupied_0 rfl 1 rfl ?_
  obtain ⟨q1, hk1, h⟩ := Option.bind_eq_some_iff.mp h
  refine x_callSX C (As := [.int p1]) (rest := []) (cells2 := 1) (slots2 := 6) (lw_g_mk tw_888 rfl) (okX5_checkNight l hlf cy D B ek p1 σ μ ω _ hk1) rfl rfl (by rw [hR9]; decide) (lw_g_mk tw_889 rfl) (lw_g_mk tw_1 rfl) (by decide) rfl (lw_g_mk tw_887 rfl) rfl (Nat.le_of_ble_eq_true rfl) dX5_occupied_1 (by rw [hR9]; decide) rfl rfl (fun v2 hv3 => ?_) (fun k4 hv5 => ?_)
  · rcases q1 with x2 | e3
    · rw [Sum.elim_inl] at h
      have hv3 : (Sum.inl (none) : Option Value ⊕ Nat) = .inl v2 := hv3
      cases hv3
      refine x_aload_n C dX5_occupied_4 rfl 0 rfl ?_
      refine x_iload_n C dX5_occupied_5 rfl 1 rfl ?_
      obtain ⟨q4, hk7, h⟩ := Option.bind_eq_some_iff.mp h
      refine x_callV C (As := [.int p1]) (rest := []) (lw_g_mk tw_336 rfl) (lw_g_mk tsel_0 rfl) (c_HB) (C1 := "HostelBeds") (T := TX5) (N := 12) (ci := 5) rfl (okX5_takenBeds l cy D B ek p1 σ μ ω _ hk7) rfl rfl (by rw [hR9]; decide) (lw_g_mk tw_337 rfl) (lw_g_mk tw_1 rfl) (by decide) rfl (lw_g_mk tw_334 rfl) rfl (Nat.le_of_ble_eq_true rfl) dX5_occupied_6 (by rw [hR9]; decide) ?_
      cases h
      exact hret _ rfl _ _ _ _ dX5_occupied_9 rfl (by decide) (by decide)
    · cases hv3
  · rcases q1 with x2 | e3
    · cases hv5
    · rw [Sum.elim_inr] at h
      have hv5 : (Sum.inr e3 : Option Value ⊕ Nat) = .inr k4 := hv5
      cases hv5
      cases h
      exact hout _ rfl _ _ _ _ _ (by decide) (by decide)
def fX5_booked (p1 : Int32) (σ : Mem) : Option ((Int32 ⊕ Nat)) := ((fX5_checkNight p1).bind fun q1 => Sum.elim (fun x2 => (gd (rP σ 0 < 12) (gd (inb p1 30) (some (.inl (rI σ 29 (rP σ 0) p1.toNatClampNeg)))))) (fun e3 => (some (.inr e3))) q1)
set_option maxHeartbeats 4000000 in
set_option maxRecDepth 100000 in
theorem okX5_booked (l : Launch) (hlf : l.stackTraces = false) (cy : Nat → ClassId) (D : va_G) (B : Nat) (ek : EK) (p1 : Int32) (σ μ ω : Mem) (res : (Int32 ⊕ Nat)) (h : fX5_booked p1 σ = some res) : CTX l cy D B ek yX5_booked cX5_booked 2 (some .int) ({ frames := 7, cells := 1, slots := 6, locals := 140 } : Room) 1 6 [.ref (B + oHB), .int p1] σ μ ω (Sum.map (fun x => some (Value.int x)) id res) σ μ ω := by
  refine met_XX (own := "HostelBeds") (by decide) rfl (Nat.le_of_ble_eq_true rfl) ?_
  intro p e s m args below meth c C hrT hlk htab
  have hret : ∀ (x9 : Int32), res = .inl x9 → ∀ (cells9 slots9 pc9 : Nat) (lcs9 : List (Nat × Value)), decode cX5_booked pc9 = .ok (.ireturn, 1) → narrow .int (.int x9) = .int x9 → cells9 ≤ 1 → slots9 ≤ 6 → X p l e ({ frames := 7, cells := 1, slots := 6, locals := 140 } : Room) s m args below meth c 2 cy D B cells9 slots9 (vx_MQ below (QX cy D B (Sum.map (fun x => some (Value.int x)) id res) σ μ ω) (XCX cy D B (Sum.map (fun x => some (Value.int x)) id res) σ μ ω) args s 1 6 (aB B)) pc9 lcs9 [.int x9] σ μ ω := fun x9 hx9 cells9 slots9 pc9 lcs9 hd hn h1 h2 => by rw [hx9]; exact x_zretX C hrT hlk hn hd h1 h2
  have hout : ∀ (k9 : Nat), res = .inr k9 → ∀ (cells9 slots9 pc9 : Nat) (lcs9 : List (Nat × Value)) (st9 : List Value), cells9 ≤ 1 → slots9 ≤ 6 → XO p l e ({ frames := 7, cells := 1, slots := 6, locals := 140 } : Room) s m args below meth c 2 cy D B cells9 slots9 (vx_MQ below (QX cy D B (Sum.map (fun x => some (Value.int x)) id res) σ μ ω) (XCX cy D B (Sum.map (fun x => some (Value.int x)) id res) σ μ ω) args s 1 6 (aB B)) pc9 lcs9 st9 σ μ ω k9 := fun k9 hx9 cells9 slots9 pc9 lcs9 st9 h1 h2 => by rw [hx9]; exact x_out C htab hlk h1 h2
  have hthr : True := trivial
  generalize (vx_MQ below (QX cy D B (Sum.map (fun x => some (Value.int x)) id res) σ μ ω) (XCX cy D B (Sum.map (fun x => some (Value.int x)) id res) σ μ ω) args s 1 6 (aB B)) = Q at hret hthr hout ⊢
  obtain ⟨R, hR9⟩ : ∃ R : Room, R = ({ frames := 7, cells := 1, slots := 6, locals := 140 } : Room) := ⟨_, rfl⟩
  rw [← hR9] at hret hout ⊢
  unfold fX5_booked at h
  show X p l e R s m args below meth c 2 cy D B 0 0 Q 0 [(0, .ref (B + oHB)), (1, .int p1)] [] σ μ ω
  refine x_iload_n C dX5_booked_0 rfl 1 rfl ?_
  obtain ⟨q1, hk1, h⟩ := Option.bind_eq_some_iff.mp h
  refine x_callSX C (As := [.int p1]) (rest := []) (cells2 := 1) (slots2 := 6) (lw_g_mk tw_888 rfl) (okX5_checkNight l hlf cy D B ek p1 σ μ ω _ hk1) rfl rfl (by rw [hR9]; decide) (lw_g_mk tw_889 rfl) (lw_g_mk tw_1 rfl) (by decide) rfl (lw_g_mk tw_887 rfl) rfl (Nat.le_of_ble_eq_true rfl) dX5_booked_1 (by rw [hR9]; decide) rfl rfl (fun v2 hv3 => ?_) (fun k4 hv5 => ?_)
  · rcases q1 with x2 | e3
    · rw [Sum.elim_inl] at h
      have hv3 : (Sum.inl (none) : Option Value ⊕ Nat) = .inl v2 := hv3
      cases hv3
      refine x_aload_n C dX5_booked_4 rfl 0 rfl ?_
      refine x_get C (C1 := "HostelBeds") (T := TX5) (N := 12) (ci := 5) inXg5 _ (c_HB) rfl 2 (by decide) (lw_g_mk tw_289 rfl) rfl dX5_booked_5 ?_
      obtain ⟨hg7, h⟩ := gd_some h
      refine x_get C (C1 := "HostelBeds$Hostel") (T := TX1) (N := 12) (ci := 1) inXg1 _ (c_Ho hg7) rfl 7 (by decide) (lw_g_mk tw_208 rfl) rfl dX5_booked_8 ?_
      refine x_iload_n C dX5_booked_11 rfl 1 rfl ?_
      obtain ⟨hg8, h⟩ := gd_some h
      refine x_iald C _ (c_Crd hg7) hg8 dX5_booked_12 ?_
      cases h
      exact hret _ rfl _ _ _ _ dX5_booked_13 rfl (by decide) (by decide)
    · cases hv3
  · rcases q1 with x2 | e3
    · cases hv5
    · rw [Sum.elim_inr] at h
      have hv5 : (Sum.inr e3 : Option Value ⊕ Nat) = .inr k4 := hv5
      cases hv5
      cases h
      exact hout _ rfl _ _ _ _ _ (by decide) (by decide)
def jX5_walkedPersons_59 (a4 : Int32 × Int32) (x1 : Int32) : Option ((Int32 × Int32) ⊕ (Int32)) := (some (.inl (x1, a4.2 + (1 : Int32))))
def stX5_walkedPersons_4 (σ : Mem) (p1 : Int32) (a4 : Int32 × Int32) : Option ((Int32 × Int32) ⊕ (Int32)) := (gd (rP σ 0 < 12) (if (rI σ 22 (rP σ 0) 0) ≤ a4.2 then (some (.inr a4.1)) else (gd (inb a4.2 17) (if ¬ (rI σ 52 0 a4.2.toNatClampNeg) = (3 : Int32) then (jX5_walkedPersons_59 a4 a4.1) else ((fX0_staysIn (rP σ 0) a4.2.toNatClampNeg p1 σ).bind fun q2 => (if q2 = 0 then (jX5_walkedPersons_59 a4 a4.1) else (jX5_walkedPersons_59 a4 (a4.1 + (rI σ 44 (rP σ 0) a4.2.toNatClampNeg)))))))))
def fX5_walkedPersons (p1 : Int32) (σ : Mem) : Option (Int32) := ((loop (stX5_walkedPersons_4 σ p1) 5000 ((0 : Int32), (0 : Int32))).bind fun b4 => (some b4))
set_option maxHeartbeats 4000000 in
set_option maxRecDepth 100000 in
theorem okX5_walkedPersons (l : Launch) (cy : Nat → ClassId) (D : va_G) (B : Nat) (ek : EK) (p1 : Int32) (σ μ ω : Mem) (res : Int32) (h : fX5_walkedPersons p1 σ = some res) : CT l cy D B ek yX5_walkedPersons cX5_walkedPersons 4 (some .int) ({ frames := 1, cells := 0, slots := 0, locals := 21 } : Room) [.ref (B + oHB), .int p1] σ μ ω (some (.int res)) σ μ ω := by
  refine met_X (own := "HostelBeds") (by decide) rfl (Nat.le_of_ble_eq_true rfl) ?_
  intro p e s m args below meth c C hrT hlk
  have hret : ∀ (pc9 : Nat) (lcs9 : List (Nat × Value)), decode cX5_walkedPersons pc9 = .ok (.ireturn, 1) → narrow .int (.int res) = .int res → X p l e ({ frames := 1, cells := 0, slots := 0, locals := 21 } : Room) s m args below meth c 4 cy D B 0 0 (MQ below (QR cy D B (some (.int res)) σ μ ω) args s 0 0 (aB B)) pc9 lcs9 [.int res] σ μ ω := fun _ _ hd hn => x_zret C hrT hlk hn hd
  generalize (MQ below (QR cy D B (some (.int res)) σ μ ω) args s 0 0 (aB B)) = Q at hret ⊢
  obtain ⟨R, hR9⟩ : ∃ R : Room, R = ({ frames := 1, cells := 0, slots := 0, locals := 21 } : Room) := ⟨_, rfl⟩
  rw [← hR9] at hret ⊢
  unfold fX5_walkedPersons at h
  show X p l e R s m args below meth c 4 cy D B 0 0 Q 0 [(0, .ref (B + oHB)), (1, .int p1)] [] σ μ ω
  refine x_iconst C (v := 0) dX5_walkedPersons_0 (by decide) ?_
  refine x_istore_n C [(2, .int (0 : Int32)), (0, .ref (B + oHB)), (1, .int p1)] dX5_walkedPersons_1 rfl (by decide) rfl ?_
  refine x_iconst C (v := 0) dX5_walkedPersons_2 (by decide) ?_
  refine x_istore_n C [(3, .int (0 : Int32)), (2, .int (0 : Int32)), (0, .ref (B + oHB)), (1, .int p1)] dX5_walkedPersons_3 rfl (by decide) rfl ?_
  obtain ⟨b4, hk10, h⟩ := Option.bind_eq_some_iff.mp h
  refine x_sub [2, 3, 1, 0] rfl ?_
  refine loop_run (step := stX5_walkedPersons_4 σ p1) (P := fun (a4 : Int32 × Int32) => X p l e R s m args below meth c 4 cy D B 0 0 Q 4 [(0, .ref (B + oHB)), (1, .int p1), (2, .int a4.1), (3, .int a4.2)] [] σ μ ω) (K := fun (b4 : Int32) => X p l e R s m args below meth c 4 cy D B 0 0 Q 65 [(2, .int b4)] [] σ μ ω) ?_ 5000 ((0 : Int32), (0 : Int32)) b4 hk10 ?_
  · intro a4 r h hA1 hB2
    unfold stX5_walkedPersons_4 at h
    refine x_iload_n C dX5_walkedPersons_4 rfl 3 rfl ?_
    refine x_aload_n C dX5_walkedPersons_5 rfl 0 rfl ?_
    refine x_get C (C1 := "HostelBeds") (T := TX5) (N := 12) (ci := 5) inXg5 _ (c_HB) rfl 2 (by decide) (lw_g_mk tw_289 rfl) rfl dX5_walkedPersons_6 ?_
    obtain ⟨hg3, h⟩ := gd_some h
    refine x_get C (C1 := "HostelBeds$Hostel") (T := TX1) (N := 12) (ci := 1) inXg1 _ (c_Ho hg3) rfl 4 (by decide) (lw_g_mk tw_200 rfl) rfl dX5_walkedPersons_9 ?_
    refine x_icmp_ge C (tgt := 65) dX5_walkedPersons_12 (by decide) (fun hc4 => ?_) (fun hc4 => ?_)
    · rw [if_pos hc4] at h
      cases h
      refine x_sub [2] rfl ?_
      exact hB2 a4.1 rfl
    · rw [if_neg hc4] at h
      refine x_aload_n C dX5_walkedPersons_15 rfl 0 rfl ?_
      refine x_get C (C1 := "HostelBeds") (T := TX5) (N := 12) (ci := 5) inXg5 _ (c_HB) rfl 4 (by decide) (lw_g_mk tw_291 rfl) rfl dX5_walkedPersons_16 ?_
      refine x_get C (C1 := "HostelBeds$Plan") (T := TX3) (N := 8) (ci := 3) inXg3 _ (c_Pl (by decide)) rfl 2 (by decide) (lw_g_mk tw_259 rfl) rfl dX5_walkedPersons_19 ?_
      refine x_iload_n C dX5_walkedPersons_22 rfl 3 rfl ?_
      obtain ⟨hg5, h⟩ := gd_some h
      refine x_iald C _ (c_Out (by decide)) hg5 dX5_walkedPersons_23 ?_
      refine x_iconst C (v := 3) dX5_walkedPersons_24 (by decide) ?_
      have hJ6 : ∀ (x1 : Int32) (r9 : (Int32 × Int32) ⊕ (Int32)), jX5_walkedPersons_59 a4 x1 = some r9 → (∀ a2, r9 = .inl a2 → (fun (a4 : Int32 × Int32) => X p l e R s m args below meth c 4 cy D B 0 0 Q 4 [(0, .ref (B + oHB)), (1, .int p1), (2, .int a4.1), (3, .int a4.2)] [] σ μ ω) a2) → (∀ b2, r9 = .inr b2 → (fun (b4 : Int32) => X p l e R s m args below meth c 4 cy D B 0 0 Q 65 [(2, .int b4)] [] σ μ ω) b2) → X p l e R s m args below meth c 4 cy D B 0 0 Q 59 [(0, .ref (B + oHB)), (1, .int p1), (2, .int x1), (3, .int a4.2)] [] σ μ ω := by
        intro x1 r h hA1 hB2
        unfold jX5_walkedPersons_59 at h
        refine x_iinc C (k := 3) [(3, .int (a4.2 + (1 : Int32))), (0, .ref (B + oHB)), (1, .int p1), (2, .int x1)] dX5_walkedPersons_59 rfl rfl (by decide) rfl ?_
        refine x_goto C (tgt := 4) dX5_walkedPersons_62 (by decide) ?_
        cases h
        refine x_sub [1, 2, 3, 0] rfl ?_
        exact hA1 (x1, a4.2 + (1 : Int32)) rfl
      refine x_icmp_ne C (tgt := 59) dX5_walkedPersons_25 (by decide) (fun hc7 => ?_) (fun hc7 => ?_)
      · rw [if_pos hc7] at h
        exact hJ6 a4.1 _ h hA1 hB2
      · rw [if_neg hc7] at h
        refine x_aload_n C dX5_walkedPersons_28 rfl 0 rfl ?_
        refine x_get C (C1 := "HostelBeds") (T := TX5) (N := 12) (ci := 5) inXg5 _ (c_HB) rfl 2 (by decide) (lw_g_mk tw_289 rfl) rfl dX5_walkedPersons_29 ?_
        refine x_get C (C1 := "HostelBeds$Hostel") (T := TX1) (N := 12) (ci := 1) inXg1 _ (c_Ho hg3) rfl 3 (by decide) (lw_g_mk tw_197 rfl) rfl dX5_walkedPersons_32 ?_
        refine x_iload_n C dX5_walkedPersons_35 rfl 3 rfl ?_
        refine x_aldq C _ 6 (C1 := "HostelBeds$Booking") (c_Bks hg3) rfl hg5 rfl dX5_walkedPersons_36 ?_
        refine x_iload_n C dX5_walkedPersons_37 rfl 1 rfl ?_
        obtain ⟨q2, hk8, h⟩ := Option.bind_eq_some_iff.mp h
        refine x_callV C (As := [.int p1]) (rest := []) (lw_g_mk tw_394 rfl) (lw_g_mk tw_395 rfl) (c_Bk hg3 (inb_lt hg5)) (C1 := "HostelBeds$Booking") (T := TX0) (N := 11) (ci := 0) rfl (okX0_staysIn l cy D B ek (rP σ 0) a4.2.toNatClampNeg p1 σ μ ω hg3 (inb_lt hg5) _ hk8) rfl rfl (by rw [hR9]; decide) (lw_g_mk tw_396 rfl) (lw_g_mk tw_5 rfl) (by decide) rfl (lw_g_mk tw_891 rfl) rfl (Nat.le_of_ble_eq_true rfl) dX5_walkedPersons_38 (by rw [hR9]; decide) ?_
        refine x_if_eq C (tgt := 59) dX5_walkedPersons_41 (by decide) (fun hc9 => ?_) (fun hc9 => ?_)
        · rw [if_pos hc9] at h
          exact hJ6 a4.1 _ h hA1 hB2
        · rw [if_neg hc9] at h
          refine x_iload_n C dX5_walkedPersons_44 rfl 2 rfl ?_
          refine x_aload_n C dX5_walkedPersons_45 rfl 0 rfl ?_
          refine x_get C (C1 := "HostelBeds") (T := TX5) (N := 12) (ci := 5) inXg5 _ (c_HB) rfl 2 (by decide) (lw_g_mk tw_289 rfl) rfl dX5_walkedPersons_46 ?_
          refine x_get C (C1 := "HostelBeds$Hostel") (T := TX1) (N := 12) (ci := 1) inXg1 _ (c_Ho hg3) rfl 3 (by decide) (lw_g_mk tw_197 rfl) rfl dX5_walkedPersons_49 ?_
          refine x_iload_n C dX5_walkedPersons_52 rfl 3 rfl ?_
          refine x_aldq C _ 6 (C1 := "HostelBeds$Booking") (c_Bks hg3) rfl hg5 rfl dX5_walkedPersons_53 ?_
          refine x_get C (C1 := "HostelBeds$Booking") (T := TX0) (N := 11) (ci := 0) inXg0 _ (c_Bk hg3 (inb_lt hg5)) rfl 5 (by decide) (lw_g_mk tw_134 rfl) rfl dX5_walkedPersons_54 ?_
          refine x_iadd C dX5_walkedPersons_57 ?_
          refine x_istore_n C [(2, .int (a4.1 + (rI σ 44 (rP σ 0) a4.2.toNatClampNeg))), (0, .ref (B + oHB)), (1, .int p1), (3, .int a4.2)] dX5_walkedPersons_58 rfl (by decide) rfl ?_
          refine x_sub [1, 2, 0, 3] rfl ?_
          exact hJ6 (a4.1 + (rI σ 44 (rP σ 0) a4.2.toNatClampNeg)) _ h hA1 hB2
  · show X p l e R s m args below meth c 4 cy D B 0 0 Q 65 [(2, .int b4)] [] σ μ ω
    refine x_iload_n C dX5_walkedPersons_65 rfl 0 rfl ?_
    cases h
    exact hret _ _ dX5_walkedPersons_66 rfl
def fX5_walked (p1 : Int32) (σ : Mem) : Option ((Int32 ⊕ Nat)) := ((fX5_checkNight p1).bind fun q1 => Sum.elim (fun x2 => ((fX5_walkedPersons p1 σ).bind fun q4 => (some (.inl q4)))) (fun e3 => (some (.inr e3))) q1)
set_option maxHeartbeats 4000000 in
set_option maxRecDepth 100000 in
theorem okX5_walked (l : Launch) (hlf : l.stackTraces = false) (cy : Nat → ClassId) (D : va_G) (B : Nat) (ek : EK) (p1 : Int32) (σ μ ω : Mem) (res : (Int32 ⊕ Nat)) (h : fX5_walked p1 σ = some res) : CTX l cy D B ek yX5_walked cX5_walked 2 (some .int) ({ frames := 7, cells := 1, slots := 6, locals := 140 } : Room) 1 6 [.ref (B + oHB), .int p1] σ μ ω (Sum.map (fun x => some (Value.int x)) id res) σ μ ω := by
  refine met_XX (own := "HostelBeds") (by decide) rfl (Nat.le_of_ble_eq_true rfl) ?_
  intro p e s m args below meth c C hrT hlk htab
  have hret : ∀ (x9 : Int32), res = .inl x9 → ∀ (cells9 slots9 pc9 : Nat) (lcs9 : List (Nat × Value)), decode cX5_walked pc9 = .ok (.ireturn, 1) → narrow .int (.int x9) = .int x9 → cells9 ≤ 1 → slots9 ≤ 6 → X p l e ({ frames := 7, cells := 1, slots := 6, locals := 140 } : Room) s m args below meth c 2 cy D B cells9 slots9 (vx_MQ below (QX cy D B (Sum.map (fun x => some (Value.int x)) id res) σ μ ω) (XCX cy D B (Sum.map (fun x => some (Value.int x)) id res) σ μ ω) args s 1 6 (aB B)) pc9 lcs9 [.int x9] σ μ ω := fun x9 hx9 cells9 slots9 pc9 lcs9 hd hn h1 h2 => by rw [hx9]; exact x_zretX C hrT hlk hn hd h1 h2
  have hout : ∀ (k9 : Nat), res = .inr k9 → ∀ (cells9 slots9 pc9 : Nat) (lcs9 : List (Nat × Value)) (st9 : List Value), cells9 ≤ 1 → slots9 ≤ 6 → XO p l e ({ frames := 7, cells := 1, slots := 6, locals := 140 } : Room) s m args below meth c 2 cy D B cells9 slots9 (vx_MQ below (QX cy D B (Sum.map (fun x => some (Value.int x)) id res) σ μ ω) (XCX cy D B (Sum.map (fun x => some (Value.int x)) id res) σ μ ω) args s 1 6 (aB B)) pc9 lcs9 st9 σ μ ω k9 := fun k9 hx9 cells9 slots9 pc9 lcs9 st9 h1 h2 => by rw [hx9]; exact x_out C htab hlk h1 h2
  have hthr : True := trivial
  generalize (vx_MQ below (QX cy D B (Sum.map (fun x => some (Value.int x)) id res) σ μ ω) (XCX cy D B (Sum.map (fun x => some (Value.int x)) id res) σ μ ω) args s 1 6 (aB B)) = Q at hret hthr hout ⊢
  obtain ⟨R, hR9⟩ : ∃ R : Room, R = ({ frames := 7, cells := 1, slots := 6, locals := 140 } : Room) := ⟨_, rfl⟩
  rw [← hR9] at hret hout ⊢
  unfold fX5_walked at h
  show X p l e R s m args below meth c 2 cy D B 0 0 Q 0 [(0, .ref (B + oHB)), (1, .int p1)] [] σ μ ω
  refine x_iload_n C dX5_walked_0 rfl 1 rfl ?_
  obtain ⟨q1, hk1, h⟩ := Option.bind_eq_some_iff.mp h
  refine x_callSX C (As := [.int p1]) (rest := []) (cells2 := 1) (slots2 := 6) (lw_g_mk tw_888 rfl) (okX5_checkNight l hlf cy D B ek p1 σ μ ω _ hk1) rfl rfl (by rw [hR9]; decide) (lw_g_mk tw_889 rfl) (lw_g_mk tw_1 rfl) (by decide) rfl (lw_g_mk tw_887 rfl) rfl (Nat.le_of_ble_eq_true rfl) dX5_walked_1 (by rw [hR9]; decide) rfl rfl (fun v2 hv3 => ?_) (fun k4 hv5 => ?_)
  · rcases q1 with x2 | e3
    · rw [Sum.elim_inl] at h
      have hv3 : (Sum.inl (none) : Option Value ⊕ Nat) = .inl v2 := hv3
      cases hv3
      refine x_aload_n C dX5_walked_4 rfl 0 rfl ?_
      refine x_iload_n C dX5_walked_5 rfl 1 rfl ?_
      obtain ⟨q4, hk7, h⟩ := Option.bind_eq_some_iff.mp h
      refine x_callV C (As := [.int p1]) (rest := []) (lw_g_mk tw_927 rfl) (lw_g_mk tsel_7 rfl) (c_HB) (C1 := "HostelBeds") (T := TX5) (N := 12) (ci := 5) rfl (okX5_walkedPersons l cy D B ek p1 σ μ ω _ hk7) rfl rfl (by rw [hR9]; decide) (lw_g_mk tw_928 rfl) (lw_g_mk tw_1 rfl) (by decide) rfl (lw_g_mk tw_925 rfl) rfl (Nat.le_of_ble_eq_true rfl) dX5_walked_6 (by rw [hR9]; decide) ?_
      cases h
      exact hret _ rfl _ _ _ _ dX5_walked_9 rfl (by decide) (by decide)
    · cases hv3
  · rcases q1 with x2 | e3
    · cases hv5
    · rw [Sum.elim_inr] at h
      have hv5 : (Sum.inr e3 : Option Value ⊕ Nat) = .inr k4 := hv5
      cases hv5
      cases h
      exact hout _ rfl _ _ _ _ _ (by decide) (by decide)
def jX5_fullNights_38 (a4 : Int32 × Int32) (x1 : Int32) : Option ((Int32 × Int32) ⊕ (Int32)) := (some (.inl (x1, a4.2 + (1 : Int32))))
def stX5_fullNights_4 (σ : Mem) (a4 : Int32 × Int32) : Option ((Int32 × Int32) ⊕ (Int32)) := (if (30 : Int32) ≤ a4.2 then (some (.inr a4.1)) else (gd (rP σ 0 < 12) (if (rI σ 20 (rP σ 0) 0) ≤ 0 then (jX5_fullNights_38 a4 a4.1) else ((fX5_takenBeds a4.2 σ).bind fun q2 => (if ¬ q2 = (rI σ 21 (rP σ 0) 0) then (jX5_fullNights_38 a4 a4.1) else (jX5_fullNights_38 a4 (a4.1 + (1 : Int32))))))))
def fX5_fullNights (σ : Mem) : Option (Int32) := ((loop (stX5_fullNights_4 σ) 5000 ((0 : Int32), (0 : Int32))).bind fun b4 => (some b4))
set_option maxHeartbeats 4000000 in
set_option maxRecDepth 100000 in
theorem okX5_fullNights (l : Launch) (cy : Nat → ClassId) (D : va_G) (B : Nat) (ek : EK) (σ μ ω : Mem) (res : Int32) (h : fX5_fullNights σ = some res) : CT l cy D B ek yX5_fullNights cX5_fullNights 3 (some .int) ({ frames := 3, cells := 0, slots := 0, locals := 69 } : Room) [.ref (B + oHB)] σ μ ω (some (.int res)) σ μ ω := by
  refine met_X (own := "HostelBeds") (by decide) rfl (Nat.le_of_ble_eq_true rfl) ?_
  intro p e s m args below meth c C hrT hlk
  have hret : ∀ (pc9 : Nat) (lcs9 : List (Nat × Value)), decode cX5_fullNights pc9 = .ok (.ireturn, 1) → narrow .int (.int res) = .int res → X p l e ({ frames := 3, cells := 0, slots := 0, locals := 69 } : Room) s m args below meth c 3 cy D B 0 0 (MQ below (QR cy D B (some (.int res)) σ μ ω) args s 0 0 (aB B)) pc9 lcs9 [.int res] σ μ ω := fun _ _ hd hn => x_zret C hrT hlk hn hd
  generalize (MQ below (QR cy D B (some (.int res)) σ μ ω) args s 0 0 (aB B)) = Q at hret ⊢
  obtain ⟨R, hR9⟩ : ∃ R : Room, R = ({ frames := 3, cells := 0, slots := 0, locals := 69 } : Room) := ⟨_, rfl⟩
  rw [← hR9] at hret ⊢
  unfold fX5_fullNights at h
  show X p l e R s m args below meth c 3 cy D B 0 0 Q 0 [(0, .ref (B + oHB))] [] σ μ ω
  refine x_iconst C (v := 0) dX5_fullNights_0 (by decide) ?_
  refine x_istore_n C [(1, .int (0 : Int32)), (0, .ref (B + oHB))] dX5_fullNights_1 rfl (by decide) rfl ?_
  refine x_iconst C (v := 0) dX5_fullNights_2 (by decide) ?_
  refine x_istore_n C [(2, .int (0 : Int32)), (1, .int (0 : Int32)), (0, .ref (B + oHB))] dX5_fullNights_3 rfl (by decide) rfl ?_
  obtain ⟨b4, hk9, h⟩ := Option.bind_eq_some_iff.mp h
  refine x_sub [2, 1, 0] rfl ?_
  refine loop_run (step := stX5_fullNights_4 σ) (P := fun (a4 : Int32 × Int32) => X p l e R s m args below meth c 3 cy D B 0 0 Q 4 [(0, .ref (B + oHB)), (1, .int a4.1), (2, .int a4.2)] [] σ μ ω) (K := fun (b4 : Int32) => X p l e R s m args below meth c 3 cy D B 0 0 Q 44 [(1, .int b4)] [] σ μ ω) ?_ 5000 ((0 : Int32), (0 : Int32)) b4 hk9 ?_
  · intro a4 r h hA1 hB2
    unfold stX5_fullNights_4 at h
    refine x_iload_n C dX5_fullNights_4 rfl 2 rfl ?_
    refine x_bipush C (v := 30) dX5_fullNights_5 (by decide) ?_
    refine x_icmp_ge C (tgt := 44) dX5_fullNights_7 (by decide) (fun hc3 => ?_) (fun hc3 => ?_)
    · rw [if_pos hc3] at h
      cases h
      refine x_sub [1] rfl ?_
      exact hB2 a4.1 rfl
    · rw [if_neg hc3] at h
      refine x_aload_n C dX5_fullNights_10 rfl 0 rfl ?_
      refine x_get C (C1 := "HostelBeds") (T := TX5) (N := 12) (ci := 5) inXg5 _ (c_HB) rfl 2 (by decide) (lw_g_mk tw_289 rfl) rfl dX5_fullNights_11 ?_
      obtain ⟨hg4, h⟩ := gd_some h
      refine x_get C (C1 := "HostelBeds$Hostel") (T := TX1) (N := 12) (ci := 1) inXg1 _ (c_Ho hg4) rfl 1 (by decide) (lw_g_mk tw_189 rfl) rfl dX5_fullNights_14 ?_
      have hJ5 : ∀ (x1 : Int32) (r9 : (Int32 × Int32) ⊕ (Int32)), jX5_fullNights_38 a4 x1 = some r9 → (∀ a2, r9 = .inl a2 → (fun (a4 : Int32 × Int32) => X p l e R s m args below meth c 3 cy D B 0 0 Q 4 [(0, .ref (B + oHB)), (1, .int a4.1), (2, .int a4.2)] [] σ μ ω) a2) → (∀ b2, r9 = .inr b2 → (fun (b4 : Int32) => X p l e R s m args below meth c 3 cy D B 0 0 Q 44 [(1, .int b4)] [] σ μ ω) b2) → X p l e R s m args below meth c 3 cy D B 0 0 Q 38 [(0, .ref (B + oHB)), (1, .int x1), (2, .int a4.2)] [] σ μ ω := by
        intro x1 r h hA1 hB2
        unfold jX5_fullNights_38 at h
        refine x_iinc C (k := 2) [(2, .int (a4.2 + (1 : Int32))), (0, .ref (B + oHB)), (1, .int x1)] dX5_fullNights_38 rfl rfl (by decide) rfl ?_
        refine x_goto C (tgt := 4) dX5_fullNights_41 (by decide) ?_
        cases h
        refine x_sub [1, 2, 0] rfl ?_
        exact hA1 (x1, a4.2 + (1 : Int32)) rfl
      refine x_if_le C (tgt := 38) dX5_fullNights_17 (by decide) (fun hc6 => ?_) (fun hc6 => ?_)
      · rw [if_pos hc6] at h
        exact hJ5 a4.1 _ h hA1 hB2
      · rw [if_neg hc6] at h
        refine x_aload_n C dX5_fullNights_20 rfl 0 rfl ?_
        refine x_iload_n C dX5_fullNights_21 rfl 2 rfl ?_
        obtain ⟨q2, hk7, h⟩ := Option.bind_eq_some_iff.mp h
        refine x_callV C (As := [.int a4.2]) (rest := []) (lw_g_mk tw_336 rfl) (lw_g_mk tsel_0 rfl) (c_HB) (C1 := "HostelBeds") (T := TX5) (N := 12) (ci := 5) rfl (okX5_takenBeds l cy D B ek a4.2 σ μ ω _ hk7) rfl rfl (by rw [hR9]; decide) (lw_g_mk tw_337 rfl) (lw_g_mk tw_1 rfl) (by decide) rfl (lw_g_mk tw_334 rfl) rfl (Nat.le_of_ble_eq_true rfl) dX5_fullNights_22 (by rw [hR9]; decide) ?_
        refine x_aload_n C dX5_fullNights_25 rfl 0 rfl ?_
        refine x_get C (C1 := "HostelBeds") (T := TX5) (N := 12) (ci := 5) inXg5 _ (c_HB) rfl 2 (by decide) (lw_g_mk tw_289 rfl) rfl dX5_fullNights_26 ?_
        refine x_get C (C1 := "HostelBeds$Hostel") (T := TX1) (N := 12) (ci := 1) inXg1 _ (c_Ho hg4) rfl 2 (by decide) (lw_g_mk tw_193 rfl) rfl dX5_fullNights_29 ?_
        refine x_icmp_ne C (tgt := 38) dX5_fullNights_32 (by decide) (fun hc8 => ?_) (fun hc8 => ?_)
        · rw [if_pos hc8] at h
          exact hJ5 a4.1 _ h hA1 hB2
        · rw [if_neg hc8] at h
          refine x_iinc C (k := 1) [(1, .int (a4.1 + (1 : Int32))), (0, .ref (B + oHB)), (2, .int a4.2)] dX5_fullNights_35 rfl rfl (by decide) rfl ?_
          refine x_sub [1, 0, 2] rfl ?_
          exact hJ5 (a4.1 + (1 : Int32)) _ h hA1 hB2
  · show X p l e R s m args below meth c 3 cy D B 0 0 Q 44 [(1, .int b4)] [] σ μ ω
    refine x_iload_n C dX5_fullNights_44 rfl 0 rfl ?_
    cases h
    exact hret _ _ dX5_fullNights_45 rfl
def jX5_longestFree_47 (a14 : Int32 × Int32 × Int32) (t5 : Int32) : Option ((Int32 × Int32 × Int32) ⊕ (Int32)) := (some (.inl (if a14.1 < t5 then t5 else a14.1, t5, a14.2.2 + (1 : Int32))))
def stX5_longestFree_14 (p1 : Int32) (p2 : Int32) (σ : Mem) (a14 : Int32 × Int32 × Int32) : Option ((Int32 × Int32 × Int32) ⊕ (Int32)) := (if (30 : Int32) ≤ a14.2.2 then (some (.inr a14.1)) else ((fX3_isBusy 0 ((p1 * (10 : Int32)) + p2) a14.2.2 σ).bind fun q4 => (if q4 = 0 then (jX5_longestFree_47 a14 (a14.2.1 + (1 : Int32))) else (jX5_longestFree_47 a14 (0 : Int32)))))
def fX5_longestFree (p1 : Int32) (p2 : Int32) (σ : Mem) : Option ((Int32 ⊕ Nat)) := ((fX5_checkBed p1 p2 σ).bind fun q1 => Sum.elim (fun x2 => ((loop (stX5_longestFree_14 p1 p2 σ) 5000 ((0 : Int32), (0 : Int32), (0 : Int32))).bind fun b14 => (some (.inl b14)))) (fun e3 => (some (.inr e3))) q1)
set_option maxHeartbeats 4000000 in
set_option maxRecDepth 100000 in
theorem okX5_longestFree (l : Launch) (hlf : l.stackTraces = false) (cy : Nat → ClassId) (D : va_G) (B : Nat) (ek : EK) (p1 : Int32) (p2 : Int32) (σ μ ω : Mem) (res : (Int32 ⊕ Nat)) (h : fX5_longestFree p1 p2 σ = some res) : CTX l cy D B ek yX5_longestFree cX5_longestFree 6 (some .int) ({ frames := 8, cells := 2, slots := 12, locals := 163 } : Room) 2 12 [.ref (B + oHB), .int p1, .int p2] σ μ ω (Sum.map (fun x => some (Value.int x)) id res) σ μ ω := by
  refine met_XX (own := "HostelBeds") (by decide) rfl (Nat.le_of_ble_eq_true rfl) ?_
  intro p e s m args below meth c C hrT hlk htab
  have hret : ∀ (x9 : Int32), res = .inl x9 → ∀ (cells9 slots9 pc9 : Nat) (lcs9 : List (Nat × Value)), decode cX5_longestFree pc9 = .ok (.ireturn, 1) → narrow .int (.int x9) = .int x9 → cells9 ≤ 2 → slots9 ≤ 12 → X p l e ({ frames := 8, cells := 2, slots := 12, locals := 163 } : Room) s m args below meth c 6 cy D B cells9 slots9 (vx_MQ below (QX cy D B (Sum.map (fun x => some (Value.int x)) id res) σ μ ω) (XCX cy D B (Sum.map (fun x => some (Value.int x)) id res) σ μ ω) args s 2 12 (aB B)) pc9 lcs9 [.int x9] σ μ ω := fun x9 hx9 cells9 slots9 pc9 lcs9 hd hn h1 h2 => by rw [hx9]; exact x_zretX C hrT hlk hn hd h1 h2
  have hout : ∀ (k9 : Nat), res = .inr k9 → ∀ (cells9 slots9 pc9 : Nat) (lcs9 : List (Nat × Value)) (st9 : List Value), cells9 ≤ 2 → slots9 ≤ 12 → XO p l e ({ frames := 8, cells := 2, slots := 12, locals := 163 } : Room) s m args below meth c 6 cy D B cells9 slots9 (vx_MQ below (QX cy D B (Sum.map (fun x => some (Value.int x)) id res) σ μ ω) (XCX cy D B (Sum.map (fun x => some (Value.int x)) id res) σ μ ω) args s 2 12 (aB B)) pc9 lcs9 st9 σ μ ω k9 := fun k9 hx9 cells9 slots9 pc9 lcs9 st9 h1 h2 => by rw [hx9]; exact x_out C htab hlk h1 h2
  have hthr : True := trivial
  generalize (vx_MQ below (QX cy D B (Sum.map (fun x => some (Value.int x)) id res) σ μ ω) (XCX cy D B (Sum.map (fun x => some (Value.int x)) id res) σ μ ω) args s 2 12 (aB B)) = Q at hret hthr hout ⊢
  obtain ⟨R, hR9⟩ : ∃ R : Room, R = ({ frames := 8, cells := 2, slots := 12, locals := 163 } : Room) := ⟨_, rfl⟩
  rw [← hR9] at hret hout ⊢
  unfold fX5_longestFree at h
  show X p l e R s m args below meth c 6 cy D B 0 0 Q 0 [(0, .ref (B + oHB)), (1, .int p1), (2, .int p2)] [] σ μ ω
  refine x_aload_n C dX5_longestFree_0 rfl 0 rfl ?_
  refine x_iload_n C dX5_longestFree_1 rfl 1 rfl ?_
  refine x_iload_n C dX5_longestFree_2 rfl 2 rfl ?_
  obtain ⟨q1, hk1, h⟩ := Option.bind_eq_some_iff.mp h
  refine x_callVX C (As := [.int p1, .int p2]) (rest := []) (cells2 := 2) (slots2 := 12) (lw_g_mk tw_884 rfl) (lw_g_mk tsel_6 rfl) (c_HB) (C1 := "HostelBeds") (T := TX5) (N := 12) (ci := 5) rfl (okX5_checkBed l hlf cy D B ek p1 p2 σ μ ω _ hk1) rfl rfl (by rw [hR9]; decide) (lw_g_mk tw_885 rfl) (lw_g_mk tw_1 rfl) (by decide) rfl (lw_g_mk tw_882 rfl) rfl (Nat.le_of_ble_eq_true rfl) dX5_longestFree_3 (by rw [hR9]; decide) rfl rfl (fun v2 hv3 => ?_) (fun k4 hv5 => ?_)
  · rcases q1 with x2 | e3
    · rw [Sum.elim_inl] at h
      have hv3 : (Sum.inl (none) : Option Value ⊕ Nat) = .inl v2 := hv3
      cases hv3
      refine x_iconst C (v := 0) dX5_longestFree_6 (by decide) ?_
      refine x_istore_n C [(3, .int (0 : Int32)), (0, .ref (B + oHB)), (1, .int p1), (2, .int p2)] dX5_longestFree_7 rfl (by decide) rfl ?_
      refine x_iconst C (v := 0) dX5_longestFree_8 (by decide) ?_
      refine x_istore C [(4, .int (0 : Int32)), (3, .int (0 : Int32)), (0, .ref (B + oHB)), (1, .int p1), (2, .int p2)] dX5_longestFree_9 (by decide) rfl ?_
      refine x_iconst C (v := 0) dX5_longestFree_11 (by decide) ?_
      refine x_istore C [(5, .int (0 : Int32)), (4, .int (0 : Int32)), (3, .int (0 : Int32)), (0, .ref (B + oHB)), (1, .int p1), (2, .int p2)] dX5_longestFree_12 (by decide) rfl ?_
      obtain ⟨b14, hk13, h⟩ := Option.bind_eq_some_iff.mp h
      refine x_sub [3, 4, 5, 2, 1, 0] rfl ?_
      refine loop_run (step := stX5_longestFree_14 p1 p2 σ) (P := fun (a14 : Int32 × Int32 × Int32) => X p l e R s m args below meth c 6 cy D B 2 12 Q 14 [(0, .ref (B + oHB)), (1, .int p1), (2, .int p2), (3, .int a14.1), (4, .int a14.2.1), (5, .int a14.2.2)] [] σ μ ω) (K := fun (b14 : Int32) => X p l e R s m args below meth c 6 cy D B 2 12 Q 62 [(3, .int b14)] [] σ μ ω) ?_ 5000 ((0 : Int32), (0 : Int32), (0 : Int32)) b14 hk13 ?_
      · intro a14 r h hA7 hB8
        unfold stX5_longestFree_14 at h
        refine x_iload C dX5_longestFree_14 5 rfl ?_
        refine x_bipush C (v := 30) dX5_longestFree_16 (by decide) ?_
        refine x_icmp_ge C (tgt := 62) dX5_longestFree_18 (by decide) (fun hc9 => ?_) (fun hc9 => ?_)
        · rw [if_pos hc9] at h
          cases h
          refine x_sub [3] rfl ?_
          exact hB8 a14.1 rfl
        · rw [if_neg hc9] at h
          refine x_aload_n C dX5_longestFree_21 rfl 0 rfl ?_
          refine x_get C (C1 := "HostelBeds") (T := TX5) (N := 12) (ci := 5) inXg5 _ (c_HB) rfl 4 (by decide) (lw_g_mk tw_291 rfl) rfl dX5_longestFree_22 ?_
          refine x_iload_n C dX5_longestFree_25 rfl 1 rfl ?_
          refine x_bipush C (v := 10) dX5_longestFree_26 (by decide) ?_
          refine x_imul C dX5_longestFree_28 ?_
          refine x_iload_n C dX5_longestFree_29 rfl 2 rfl ?_
          refine x_iadd C dX5_longestFree_30 ?_
          refine x_iload C dX5_longestFree_31 5 rfl ?_
          obtain ⟨q4, hk10, h⟩ := Option.bind_eq_some_iff.mp h
          refine x_callV C (As := [.int ((p1 * (10 : Int32)) + p2), .int a14.2.2]) (rest := []) (lw_g_mk tw_343 rfl) (lw_g_mk tw_344 rfl) (c_Pl (by decide)) (C1 := "HostelBeds$Plan") (T := TX3) (N := 8) (ci := 3) rfl (okX3_isBusy l cy D B ek 0 ((p1 * (10 : Int32)) + p2) a14.2.2 σ μ ω (by decide) _ hk10) rfl rfl (by rw [hR9]; decide) (lw_g_mk tw_345 rfl) (lw_g_mk tw_6 rfl) (by decide) rfl (lw_g_mk tw_936 rfl) rfl (Nat.le_of_ble_eq_true rfl) dX5_longestFree_33 (by rw [hR9]; decide) ?_
          have hJ11 : ∀ (t5 : Int32) (r9 : (Int32 × Int32 × Int32) ⊕ (Int32)), jX5_longestFree_47 a14 t5 = some r9 → (∀ a2, r9 = .inl a2 → (fun (a14 : Int32 × Int32 × Int32) => X p l e R s m args below meth c 6 cy D B 2 12 Q 14 [(0, .ref (B + oHB)), (1, .int p1), (2, .int p2), (3, .int a14.1), (4, .int a14.2.1), (5, .int a14.2.2)] [] σ μ ω) a2) → (∀ b2, r9 = .inr b2 → (fun (b14 : Int32) => X p l e R s m args below meth c 6 cy D B 2 12 Q 62 [(3, .int b14)] [] σ μ ω) b2) → X p l e R s m args below meth c 6 cy D B 2 12 Q 47 [(0, .ref (B + oHB)), (1, .int p1), (2, .int p2), (3, .int a14.1), (5, .int a14.2.2)] [.int t5] σ μ ω := by
            intro t5 r h hA7 hB8
            unfold jX5_longestFree_47 at h
            refine x_istore C [(4, .int t5), (0, .ref (B + oHB)), (1, .int p1), (2, .int p2), (3, .int a14.1), (5, .int a14.2.2)] dX5_longestFree_47 (by decide) rfl ?_
            refine x_iload_n C dX5_longestFree_49 rfl 4 rfl ?_
            refine x_iload C dX5_longestFree_50 0 rfl ?_
            refine x_mmax C (lw_g_mk tw_937 rfl) (lw_g_mk tw_453 rfl) (lw_g_mk tw_17 rfl) (lw_g_mk tw_454 rfl) (by rw [hR9]; decide) (by rw [hR9]; exact Nat.le_of_ble_eq_true rfl) (by rw [hR9]; decide) dX5_longestFree_52 ?_
            refine x_istore_n C [(3, .int (if a14.1 < t5 then t5 else a14.1)), (4, .int t5), (0, .ref (B + oHB)), (1, .int p1), (2, .int p2), (5, .int a14.2.2)] dX5_longestFree_55 rfl (by decide) rfl ?_
            refine x_iinc C (k := 5) [(5, .int (a14.2.2 + (1 : Int32))), (3, .int (if a14.1 < t5 then t5 else a14.1)), (4, .int t5), (0, .ref (B + oHB)), (1, .int p1), (2, .int p2)] dX5_longestFree_56 rfl rfl (by decide) rfl ?_
            refine x_goto C (tgt := 14) dX5_longestFree_59 (by decide) ?_
            cases h
            refine x_sub [3, 4, 5, 1, 2, 0] rfl ?_
            exact hA7 (if a14.1 < t5 then t5 else a14.1, t5, a14.2.2 + (1 : Int32)) rfl
          refine x_if_eq C (tgt := 43) dX5_longestFree_36 (by decide) (fun hc12 => ?_) (fun hc12 => ?_)
          · rw [if_pos hc12] at h
            refine x_iload C dX5_longestFree_43 4 rfl ?_
            refine x_iconst C (v := 1) dX5_longestFree_45 (by decide) ?_
            refine x_iadd C dX5_longestFree_46 ?_
            refine x_sub [0, 1, 2, 3, 5] rfl ?_
            exact hJ11 (a14.2.1 + (1 : Int32)) _ h hA7 hB8
          · rw [if_neg hc12] at h
            refine x_iconst C (v := 0) dX5_longestFree_39 (by decide) ?_
            refine x_goto C (tgt := 47) dX5_longestFree_40 (by decide) ?_
            refine x_sub [0, 1, 2, 3, 5] rfl ?_
            exact hJ11 (0 : Int32) _ h hA7 hB8
      · show X p l e R s m args below meth c 6 cy D B 2 12 Q 62 [(3, .int b14)] [] σ μ ω
        refine x_iload_n C dX5_longestFree_62 rfl 0 rfl ?_
        cases h
        exact hret _ rfl _ _ _ _ dX5_longestFree_63 rfl (by decide) (by decide)
    · cases hv3
  · rcases q1 with x2 | e3
    · cases hv5
    · rw [Sum.elim_inr] at h
      have hv5 : (Sum.inr e3 : Option Value ⊕ Nat) = .inr k4 := hv5
      cases hv5
      cases h
      exact hout _ rfl _ _ _ _ _ (by decide) (by decide)
def jX5_splits_31 (a4 : Int32 × Int32) (x1 : Int32) : Option ((Int32 × Int32) ⊕ (Int32)) := (some (.inl (x1, a4.2 + (1 : Int32))))
def stX5_splits_4 (σ : Mem) (a4 : Int32 × Int32) : Option ((Int32 × Int32) ⊕ (Int32)) := (gd (rP σ 0 < 12) (if (rI σ 22 (rP σ 0) 0) ≤ a4.2 then (some (.inr a4.1)) else (gd (inb a4.2 17) (if ¬ (rI σ 52 0 a4.2.toNatClampNeg) = (2 : Int32) then (jX5_splits_31 a4 a4.1) else (jX5_splits_31 a4 (a4.1 + (1 : Int32)))))))
def fX5_splits (σ : Mem) : Option (Int32) := ((loop (stX5_splits_4 σ) 5000 ((0 : Int32), (0 : Int32))).bind fun b4 => (some b4))
set_option maxHeartbeats 4000000 in
set_option maxRecDepth 100000 in
theorem okX5_splits (l : Launch) (cy : Nat → ClassId) (D : va_G) (B : Nat) (ek : EK) (σ μ ω : Mem) (res : Int32) (h : fX5_splits σ = some res) : CT l cy D B ek yX5_splits cX5_splits 3 (some .int) ({ frames := 0, cells := 0, slots := 0, locals := 0 } : Room) [.ref (B + oHB)] σ μ ω (some (.int res)) σ μ ω := by
  refine met_X (own := "HostelBeds") (by decide) rfl (Nat.le_of_ble_eq_true rfl) ?_
  intro p e s m args below meth c C hrT hlk
  have hret : ∀ (pc9 : Nat) (lcs9 : List (Nat × Value)), decode cX5_splits pc9 = .ok (.ireturn, 1) → narrow .int (.int res) = .int res → X p l e ({ frames := 0, cells := 0, slots := 0, locals := 0 } : Room) s m args below meth c 3 cy D B 0 0 (MQ below (QR cy D B (some (.int res)) σ μ ω) args s 0 0 (aB B)) pc9 lcs9 [.int res] σ μ ω := fun _ _ hd hn => x_zret C hrT hlk hn hd
  generalize (MQ below (QR cy D B (some (.int res)) σ μ ω) args s 0 0 (aB B)) = Q at hret ⊢
  obtain ⟨R, hR9⟩ : ∃ R : Room, R = ({ frames := 0, cells := 0, slots := 0, locals := 0 } : Room) := ⟨_, rfl⟩
  rw [← hR9] at hret ⊢
  unfold fX5_splits at h
  show X p l e R s m args below meth c 3 cy D B 0 0 Q 0 [(0, .ref (B + oHB))] [] σ μ ω
  refine x_iconst C (v := 0) dX5_splits_0 (by decide) ?_
  refine x_istore_n C [(1, .int (0 : Int32)), (0, .ref (B + oHB))] dX5_splits_1 rfl (by decide) rfl ?_
  refine x_iconst C (v := 0) dX5_splits_2 (by decide) ?_
  refine x_istore_n C [(2, .int (0 : Int32)), (1, .int (0 : Int32)), (0, .ref (B + oHB))] dX5_splits_3 rfl (by decide) rfl ?_
  obtain ⟨b4, hk8, h⟩ := Option.bind_eq_some_iff.mp h
  refine x_sub [2, 1, 0] rfl ?_
  refine loop_run (step := stX5_splits_4 σ) (P := fun (a4 : Int32 × Int32) => X p l e R s m args below meth c 3 cy D B 0 0 Q 4 [(0, .ref (B + oHB)), (1, .int a4.1), (2, .int a4.2)] [] σ μ ω) (K := fun (b4 : Int32) => X p l e R s m args below meth c 3 cy D B 0 0 Q 37 [(1, .int b4)] [] σ μ ω) ?_ 5000 ((0 : Int32), (0 : Int32)) b4 hk8 ?_
  · intro a4 r h hA1 hB2
    unfold stX5_splits_4 at h
    refine x_iload_n C dX5_splits_4 rfl 2 rfl ?_
    refine x_aload_n C dX5_splits_5 rfl 0 rfl ?_
    refine x_get C (C1 := "HostelBeds") (T := TX5) (N := 12) (ci := 5) inXg5 _ (c_HB) rfl 2 (by decide) (lw_g_mk tw_289 rfl) rfl dX5_splits_6 ?_
    obtain ⟨hg3, h⟩ := gd_some h
    refine x_get C (C1 := "HostelBeds$Hostel") (T := TX1) (N := 12) (ci := 1) inXg1 _ (c_Ho hg3) rfl 4 (by decide) (lw_g_mk tw_200 rfl) rfl dX5_splits_9 ?_
    refine x_icmp_ge C (tgt := 37) dX5_splits_12 (by decide) (fun hc4 => ?_) (fun hc4 => ?_)
    · rw [if_pos hc4] at h
      cases h
      refine x_sub [1] rfl ?_
      exact hB2 a4.1 rfl
    · rw [if_neg hc4] at h
      refine x_aload_n C dX5_splits_15 rfl 0 rfl ?_
      refine x_get C (C1 := "HostelBeds") (T := TX5) (N := 12) (ci := 5) inXg5 _ (c_HB) rfl 4 (by decide) (lw_g_mk tw_291 rfl) rfl dX5_splits_16 ?_
      refine x_get C (C1 := "HostelBeds$Plan") (T := TX3) (N := 8) (ci := 3) inXg3 _ (c_Pl (by decide)) rfl 2 (by decide) (lw_g_mk tw_259 rfl) rfl dX5_splits_19 ?_
      refine x_iload_n C dX5_splits_22 rfl 2 rfl ?_
      obtain ⟨hg5, h⟩ := gd_some h
      refine x_iald C _ (c_Out (by decide)) hg5 dX5_splits_23 ?_
      refine x_iconst C (v := 2) dX5_splits_24 (by decide) ?_
      have hJ6 : ∀ (x1 : Int32) (r9 : (Int32 × Int32) ⊕ (Int32)), jX5_splits_31 a4 x1 = some r9 → (∀ a2, r9 = .inl a2 → (fun (a4 : Int32 × Int32) => X p l e R s m args below meth c 3 cy D B 0 0 Q 4 [(0, .ref (B + oHB)), (1, .int a4.1), (2, .int a4.2)] [] σ μ ω) a2) → (∀ b2, r9 = .inr b2 → (fun (b4 : Int32) => X p l e R s m args below meth c 3 cy D B 0 0 Q 37 [(1, .int b4)] [] σ μ ω) b2) → X p l e R s m args below meth c 3 cy D B 0 0 Q 31 [(0, .ref (B + oHB)), (1, .int x1), (2, .int a4.2)] [] σ μ ω := by
        intro x1 r h hA1 hB2
        unfold jX5_splits_31 at h
        refine x_iinc C (k := 2) [(2, .int (a4.2 + (1 : Int32))), (0, .ref (B + oHB)), (1, .int x1)] dX5_splits_31 rfl rfl (by decide) rfl ?_
        refine x_goto C (tgt := 4) dX5_splits_34 (by decide) ?_
        cases h
        refine x_sub [1, 2, 0] rfl ?_
        exact hA1 (x1, a4.2 + (1 : Int32)) rfl
      refine x_icmp_ne C (tgt := 31) dX5_splits_25 (by decide) (fun hc7 => ?_) (fun hc7 => ?_)
      · rw [if_pos hc7] at h
        exact hJ6 a4.1 _ h hA1 hB2
      · rw [if_neg hc7] at h
        refine x_iinc C (k := 1) [(1, .int (a4.1 + (1 : Int32))), (0, .ref (B + oHB)), (2, .int a4.2)] dX5_splits_28 rfl rfl (by decide) rfl ?_
        refine x_sub [1, 0, 2] rfl ?_
        exact hJ6 (a4.1 + (1 : Int32)) _ h hA1 hB2
  · show X p l e R s m args below meth c 3 cy D B 0 0 Q 37 [(1, .int b4)] [] σ μ ω
    refine x_iload_n C dX5_splits_37 rfl 0 rfl ?_
    cases h
    exact hret _ _ dX5_splits_38 rfl
def stX5_extendable_41 (p1 : Int32) (σ : Mem) (a41 : Int32) : Option ((Int32) ⊕ (Int32)) := (if (30 : Int32) ≤ a41 then (some (.inr a41)) else ((fX3_areBedsFree 0 p1 (rI σ 44 (rP σ 0) p1.toNatClampNeg) a41 σ).bind fun q5 => (if q5 = 0 then (some (.inr a41)) else (some (.inl (a41 + (1 : Int32)))))))
def fX5_extendable (p1 : Int32) (σ : Mem) : Option ((Int32 ⊕ Nat)) := ((fX5_checkBooking p1 σ).bind fun q1 => Sum.elim (fun x2 => ((fX3_hasBeds 0 p1 σ).bind fun q4 => (if ¬ q4 = 0 then (gd (rP σ 0 < 12) (gd (inb p1 17) ((loop (stX5_extendable_41 p1 σ) 5000 ((rI σ 40 (rP σ 0) p1.toNatClampNeg) + (rI σ 41 (rP σ 0) p1.toNatClampNeg))).bind fun b41 => (some (.inl (b41 - ((rI σ 40 (rP σ 0) p1.toNatClampNeg) + (rI σ 41 (rP σ 0) p1.toNatClampNeg)))))))) else (some (.inl (0 : Int32)))))) (fun e3 => (some (.inr e3))) q1)
set_option maxHeartbeats 4000000 in
set_option maxRecDepth 100000 in
theorem okX5_extendable (l : Launch) (hlf : l.stackTraces = false) (cy : Nat → ClassId) (D : va_G) (B : Nat) (ek : EK) (p1 : Int32) (σ μ ω : Mem) (res : (Int32 ⊕ Nat)) (h : fX5_extendable p1 σ = some res) : CTX l cy D B ek yX5_extendable cX5_extendable 5 (some .int) ({ frames := 7, cells := 1, slots := 6, locals := 141 } : Room) 1 6 [.ref (B + oHB), .int p1] σ μ ω (Sum.map (fun x => some (Value.int x)) id res) σ μ ω := by
  refine met_XX (own := "HostelBeds") (by decide) rfl (Nat.le_of_ble_eq_true rfl) ?_
  intro p e s m args below meth c C hrT hlk htab
  have hret : ∀ (x9 : Int32), res = .inl x9 → ∀ (cells9 slots9 pc9 : Nat) (lcs9 : List (Nat × Value)), decode cX5_extendable pc9 = .ok (.ireturn, 1) → narrow .int (.int x9) = .int x9 → cells9 ≤ 1 → slots9 ≤ 6 → X p l e ({ frames := 7, cells := 1, slots := 6, locals := 141 } : Room) s m args below meth c 5 cy D B cells9 slots9 (vx_MQ below (QX cy D B (Sum.map (fun x => some (Value.int x)) id res) σ μ ω) (XCX cy D B (Sum.map (fun x => some (Value.int x)) id res) σ μ ω) args s 1 6 (aB B)) pc9 lcs9 [.int x9] σ μ ω := fun x9 hx9 cells9 slots9 pc9 lcs9 hd hn h1 h2 => by rw [hx9]; exact x_zretX C hrT hlk hn hd h1 h2
  have hout : ∀ (k9 : Nat), res = .inr k9 → ∀ (cells9 slots9 pc9 : Nat) (lcs9 : List (Nat × Value)) (st9 : List Value), cells9 ≤ 1 → slots9 ≤ 6 → XO p l e ({ frames := 7, cells := 1, slots := 6, locals := 141 } : Room) s m args below meth c 5 cy D B cells9 slots9 (vx_MQ below (QX cy D B (Sum.map (fun x => some (Value.int x)) id res) σ μ ω) (XCX cy D B (Sum.map (fun x => some (Value.int x)) id res) σ μ ω) args s 1 6 (aB B)) pc9 lcs9 st9 σ μ ω k9 := fun k9 hx9 cells9 slots9 pc9 lcs9 st9 h1 h2 => by rw [hx9]; exact x_out C htab hlk h1 h2
  have hthr : True := trivial
  generalize (vx_MQ below (QX cy D B (Sum.map (fun x => some (Value.int x)) id res) σ μ ω) (XCX cy D B (Sum.map (fun x => some (Value.int x)) id res) σ μ ω) args s 1 6 (aB B)) = Q at hret hthr hout ⊢
  obtain ⟨R, hR9⟩ : ∃ R : Room, R = ({ frames := 7, cells := 1, slots := 6, locals := 141 } : Room) := ⟨_, rfl⟩
  rw [← hR9] at hret hout ⊢
  unfold fX5_extendable at h
  show X p l e R s m args below meth c 5 cy D B 0 0 Q 0 [(0, .ref (B + oHB)), (1, .int p1)] [] σ μ ω
  refine x_aload_n C dX5_extendable_0 rfl 0 rfl ?_
  refine x_iload_n C dX5_extendable_1 rfl 1 rfl ?_
  obtain ⟨q1, hk1, h⟩ := Option.bind_eq_some_iff.mp h
  refine x_callVX C (As := [.int p1]) (rest := []) (cells2 := 1) (slots2 := 6) (lw_g_mk tw_788 rfl) (lw_g_mk tsel_4 rfl) (c_HB) (C1 := "HostelBeds") (T := TX5) (N := 12) (ci := 5) rfl (okX5_checkBooking l hlf cy D B ek p1 σ μ ω _ hk1) rfl rfl (by rw [hR9]; decide) (lw_g_mk tw_789 rfl) (lw_g_mk tw_1 rfl) (by decide) rfl (lw_g_mk tw_786 rfl) rfl (Nat.le_of_ble_eq_true rfl) dX5_extendable_2 (by rw [hR9]; decide) rfl rfl (fun v2 hv3 => ?_) (fun k4 hv5 => ?_)
  · rcases q1 with x2 | e3
    · rw [Sum.elim_inl] at h
      have hv3 : (Sum.inl (none) : Option Value ⊕ Nat) = .inl v2 := hv3
      cases hv3
      refine x_aload_n C dX5_extendable_5 rfl 0 rfl ?_
      refine x_get C (C1 := "HostelBeds") (T := TX5) (N := 12) (ci := 5) inXg5 _ (c_HB) rfl 4 (by decide) (lw_g_mk tw_291 rfl) rfl dX5_extendable_6 ?_
      refine x_iload_n C dX5_extendable_9 rfl 1 rfl ?_
      obtain ⟨q4, hk7, h⟩ := Option.bind_eq_some_iff.mp h
      refine x_callV C (As := [.int p1]) (rest := []) (lw_g_mk tw_864 rfl) (lw_g_mk tw_865 rfl) (c_Pl (by decide)) (C1 := "HostelBeds$Plan") (T := TX3) (N := 8) (ci := 3) rfl (okX3_hasBeds l cy D B ek 0 p1 σ μ ω (by decide) _ hk7) rfl rfl (by rw [hR9]; decide) (lw_g_mk tw_866 rfl) (lw_g_mk tw_6 rfl) (by decide) rfl (lw_g_mk tw_863 rfl) rfl (Nat.le_of_ble_eq_true rfl) dX5_extendable_10 (by rw [hR9]; decide) ?_
      refine x_if_ne C (tgt := 18) dX5_extendable_13 (by decide) (fun hc8 => ?_) (fun hc8 => ?_)
      · rw [if_pos hc8] at h
        refine x_aload_n C dX5_extendable_18 rfl 0 rfl ?_
        refine x_get C (C1 := "HostelBeds") (T := TX5) (N := 12) (ci := 5) inXg5 _ (c_HB) rfl 2 (by decide) (lw_g_mk tw_289 rfl) rfl dX5_extendable_19 ?_
        obtain ⟨hg9, h⟩ := gd_some h
        refine x_get C (C1 := "HostelBeds$Hostel") (T := TX1) (N := 12) (ci := 1) inXg1 _ (c_Ho hg9) rfl 3 (by decide) (lw_g_mk tw_197 rfl) rfl dX5_extendable_22 ?_
        refine x_iload_n C dX5_extendable_25 rfl 1 rfl ?_
        obtain ⟨hg10, h⟩ := gd_some h
        refine x_aldq C _ 6 (C1 := "HostelBeds$Booking") (c_Bks hg9) rfl hg10 rfl dX5_extendable_26 ?_
        refine x_astore_n C [(2, .ref (B + oBk (rP σ 0) p1.toNatClampNeg)), (0, .ref (B + oHB)), (1, .int p1)] dX5_extendable_27 rfl (by decide) rfl ?_
        refine x_aload_n C dX5_extendable_28 rfl 0 rfl ?_
        refine x_get C (C1 := "HostelBeds$Booking") (T := TX0) (N := 11) (ci := 0) inXg0 _ (c_Bk hg9 (inb_lt hg10)) rfl 1 (by decide) (lw_g_mk tw_117 rfl) rfl dX5_extendable_29 ?_
        refine x_aload_n C dX5_extendable_32 rfl 0 rfl ?_
        refine x_get C (C1 := "HostelBeds$Booking") (T := TX0) (N := 11) (ci := 0) inXg0 _ (c_Bk hg9 (inb_lt hg10)) rfl 2 (by decide) (lw_g_mk tw_120 rfl) rfl dX5_extendable_33 ?_
        refine x_iadd C dX5_extendable_36 ?_
        refine x_istore_n C [(3, .int ((rI σ 40 (rP σ 0) p1.toNatClampNeg) + (rI σ 41 (rP σ 0) p1.toNatClampNeg))), (2, .ref (B + oBk (rP σ 0) p1.toNatClampNeg)), (0, .ref (B + oHB)), (1, .int p1)] dX5_extendable_37 rfl (by decide) rfl ?_
        refine x_iload_n C dX5_extendable_38 rfl 0 rfl ?_
        refine x_istore C [(4, .int ((rI σ 40 (rP σ 0) p1.toNatClampNeg) + (rI σ 41 (rP σ 0) p1.toNatClampNeg))), (3, .int ((rI σ 40 (rP σ 0) p1.toNatClampNeg) + (rI σ 41 (rP σ 0) p1.toNatClampNeg))), (2, .ref (B + oBk (rP σ 0) p1.toNatClampNeg)), (0, .ref (B + oHB)), (1, .int p1)] dX5_extendable_39 (by decide) rfl ?_
        obtain ⟨b41, hk16, h⟩ := Option.bind_eq_some_iff.mp h
        refine x_sub [3, 4, 2, 1, 0] rfl ?_
        refine loop_run (step := stX5_extendable_41 p1 σ) (P := fun (a41 : Int32) => X p l e R s m args below meth c 5 cy D B 1 6 Q 41 [(0, .ref (B + oHB)), (1, .int p1), (2, .ref (B + oBk (rP σ 0) p1.toNatClampNeg)), (3, .int ((rI σ 40 (rP σ 0) p1.toNatClampNeg) + (rI σ 41 (rP σ 0) p1.toNatClampNeg))), (4, .int a41)] [] σ μ ω) (K := fun (b41 : Int32) => X p l e R s m args below meth c 5 cy D B 1 6 Q 71 [(3, .int ((rI σ 40 (rP σ 0) p1.toNatClampNeg) + (rI σ 41 (rP σ 0) p1.toNatClampNeg))), (4, .int b41)] [] σ μ ω) ?_ 5000 ((rI σ 40 (rP σ 0) p1.toNatClampNeg) + (rI σ 41 (rP σ 0) p1.toNatClampNeg)) b41 hk16 ?_
        · intro a41 r h hA11 hB12
          unfold stX5_extendable_41 at h
          refine x_iload C dX5_extendable_41 4 rfl ?_
          refine x_bipush C (v := 30) dX5_extendable_43 (by decide) ?_
          refine x_icmp_ge C (tgt := 71) dX5_extendable_45 (by decide) (fun hc13 => ?_) (fun hc13 => ?_)
          · rw [if_pos hc13] at h
            cases h
            refine x_sub [3, 4] rfl ?_
            exact hB12 a41 rfl
          · rw [if_neg hc13] at h
            refine x_aload_n C dX5_extendable_48 rfl 0 rfl ?_
            refine x_get C (C1 := "HostelBeds") (T := TX5) (N := 12) (ci := 5) inXg5 _ (c_HB) rfl 4 (by decide) (lw_g_mk tw_291 rfl) rfl dX5_extendable_49 ?_
            refine x_iload_n C dX5_extendable_52 rfl 1 rfl ?_
            refine x_aload_n C dX5_extendable_53 rfl 2 rfl ?_
            refine x_get C (C1 := "HostelBeds$Booking") (T := TX0) (N := 11) (ci := 0) inXg0 _ (c_Bk hg9 (inb_lt hg10)) rfl 5 (by decide) (lw_g_mk tw_134 rfl) rfl dX5_extendable_54 ?_
            refine x_iload C dX5_extendable_57 4 rfl ?_
            obtain ⟨q5, hk14, h⟩ := Option.bind_eq_some_iff.mp h
            refine x_callV C (As := [.int p1, .int (rI σ 44 (rP σ 0) p1.toNatClampNeg), .int a41]) (rest := []) (lw_g_mk tw_946 rfl) (lw_g_mk tw_947 rfl) (c_Pl (by decide)) (C1 := "HostelBeds$Plan") (T := TX3) (N := 8) (ci := 3) rfl (okX3_areBedsFree l cy D B ek 0 p1 (rI σ 44 (rP σ 0) p1.toNatClampNeg) a41 σ μ ω (by decide) _ hk14) rfl rfl (by rw [hR9]; decide) (lw_g_mk tw_948 rfl) (lw_g_mk tw_6 rfl) (by decide) rfl (lw_g_mk tw_945 rfl) rfl (Nat.le_of_ble_eq_true rfl) dX5_extendable_59 (by rw [hR9]; decide) ?_
            refine x_if_eq C (tgt := 71) dX5_extendable_62 (by decide) (fun hc15 => ?_) (fun hc15 => ?_)
            · rw [if_pos hc15] at h
              cases h
              refine x_sub [3, 4] rfl ?_
              exact hB12 a41 rfl
            · rw [if_neg hc15] at h
              refine x_iinc C (k := 4) [(4, .int (a41 + (1 : Int32))), (0, .ref (B + oHB)), (1, .int p1), (2, .ref (B + oBk (rP σ 0) p1.toNatClampNeg)), (3, .int ((rI σ 40 (rP σ 0) p1.toNatClampNeg) + (rI σ 41 (rP σ 0) p1.toNatClampNeg)))] dX5_extendable_65 rfl rfl (by decide) rfl ?_
              refine x_goto C (tgt := 41) dX5_extendable_68 (by decide) ?_
              cases h
              refine x_sub [1, 2, 3, 4, 0] rfl ?_
              exact hA11 (a41 + (1 : Int32)) rfl
        · show X p l e R s m args below meth c 5 cy D B 1 6 Q 71 [(3, .int ((rI σ 40 (rP σ 0) p1.toNatClampNeg) + (rI σ 41 (rP σ 0) p1.toNatClampNeg))), (4, .int b41)] [] σ μ ω
          refine x_iload C dX5_extendable_71 1 rfl ?_
          refine x_iload_n C dX5_extendable_73 rfl 0 rfl ?_
          refine x_isub C dX5_extendable_74 ?_
          cases h
          exact hret _ rfl _ _ _ _ dX5_extendable_75 rfl (by decide) (by decide)
      · rw [if_neg hc8] at h
        refine x_iconst C (v := 0) dX5_extendable_16 (by decide) ?_
        cases h
        exact hret _ rfl _ _ _ _ dX5_extendable_17 rfl (by decide) (by decide)
    · cases hv3
  · rcases q1 with x2 | e3
    · cases hv5
    · rw [Sum.elim_inr] at h
      have hv5 : (Sum.inr e3 : Option Value ⊕ Nat) = .inr k4 := hv5
      cases hv5
      cases h
      exact hout _ rfl _ _ _ _ _ (by decide) (by decide)
def fX5_pays (p1 : Int32) (σ : Mem) : Option ((Int32 ⊕ Nat)) := ((fX5_checkBooking p1 σ).bind fun q1 => Sum.elim (fun x2 => (gd (inb p1 17) (some (.inl (rI σ 54 0 p1.toNatClampNeg))))) (fun e3 => (some (.inr e3))) q1)
set_option maxHeartbeats 4000000 in
set_option maxRecDepth 100000 in
theorem okX5_pays (l : Launch) (hlf : l.stackTraces = false) (cy : Nat → ClassId) (D : va_G) (B : Nat) (ek : EK) (p1 : Int32) (σ μ ω : Mem) (res : (Int32 ⊕ Nat)) (h : fX5_pays p1 σ = some res) : CTX l cy D B ek yX5_pays cX5_pays 2 (some .int) ({ frames := 7, cells := 1, slots := 6, locals := 141 } : Room) 1 6 [.ref (B + oHB), .int p1] σ μ ω (Sum.map (fun x => some (Value.int x)) id res) σ μ ω := by
  refine met_XX (own := "HostelBeds") (by decide) rfl (Nat.le_of_ble_eq_true rfl) ?_
  intro p e s m args below meth c C hrT hlk htab
  have hret : ∀ (x9 : Int32), res = .inl x9 → ∀ (cells9 slots9 pc9 : Nat) (lcs9 : List (Nat × Value)), decode cX5_pays pc9 = .ok (.ireturn, 1) → narrow .int (.int x9) = .int x9 → cells9 ≤ 1 → slots9 ≤ 6 → X p l e ({ frames := 7, cells := 1, slots := 6, locals := 141 } : Room) s m args below meth c 2 cy D B cells9 slots9 (vx_MQ below (QX cy D B (Sum.map (fun x => some (Value.int x)) id res) σ μ ω) (XCX cy D B (Sum.map (fun x => some (Value.int x)) id res) σ μ ω) args s 1 6 (aB B)) pc9 lcs9 [.int x9] σ μ ω := fun x9 hx9 cells9 slots9 pc9 lcs9 hd hn h1 h2 => by rw [hx9]; exact x_zretX C hrT hlk hn hd h1 h2
  have hout : ∀ (k9 : Nat), res = .inr k9 → ∀ (cells9 slots9 pc9 : Nat) (lcs9 : List (Nat × Value)) (st9 : List Value), cells9 ≤ 1 → slots9 ≤ 6 → XO p l e ({ frames := 7, cells := 1, slots := 6, locals := 141 } : Room) s m args below meth c 2 cy D B cells9 slots9 (vx_MQ below (QX cy D B (Sum.map (fun x => some (Value.int x)) id res) σ μ ω) (XCX cy D B (Sum.map (fun x => some (Value.int x)) id res) σ μ ω) args s 1 6 (aB B)) pc9 lcs9 st9 σ μ ω k9 := fun k9 hx9 cells9 slots9 pc9 lcs9 st9 h1 h2 => by rw [hx9]; exact x_out C htab hlk h1 h2
  have hthr : True := trivial
  generalize (vx_MQ below (QX cy D B (Sum.map (fun x => some (Value.int x)) id res) σ μ ω) (XCX cy D B (Sum.map (fun x => some (Value.int x)) id res) σ μ ω) args s 1 6 (aB B)) = Q at hret hthr hout ⊢
  obtain ⟨R, hR9⟩ : ∃ R : Room, R = ({ frames := 7, cells := 1, slots := 6, locals := 141 } : Room) := ⟨_, rfl⟩
  rw [← hR9] at hret hout ⊢
  unfold fX5_pays at h
  show X p l e R s m args below meth c 2 cy D B 0 0 Q 0 [(0, .ref (B + oHB)), (1, .int p1)] [] σ μ ω
  refine x_aload_n C dX5_pays_0 rfl 0 rfl ?_
  refine x_iload_n C dX5_pays_1 rfl 1 rfl ?_
  obtain ⟨q1, hk1, h⟩ := Option.bind_eq_some_iff.mp h
  refine x_callVX C (As := [.int p1]) (rest := []) (cells2 := 1) (slots2 := 6) (lw_g_mk tw_788 rfl) (lw_g_mk tsel_4 rfl) (c_HB) (C1 := "HostelBeds") (T := TX5) (N := 12) (ci := 5) rfl (okX5_checkBooking l hlf cy D B ek p1 σ μ ω _ hk1) rfl rfl (by rw [hR9]; decide) (lw_g_mk tw_789 rfl) (lw_g_mk tw_1 rfl) (by decide) rfl (lw_g_mk tw_786 rfl) rfl (Nat.le_of_ble_eq_true rfl) dX5_pays_2 (by rw [hR9]; decide) rfl rfl (fun v2 hv3 => ?_) (fun k4 hv5 => ?_)
  · rcases q1 with x2 | e3
    · rw [Sum.elim_inl] at h
      have hv3 : (Sum.inl (none) : Option Value ⊕ Nat) = .inl v2 := hv3
      cases hv3
      refine x_aload_n C dX5_pays_5 rfl 0 rfl ?_
      refine x_get C (C1 := "HostelBeds") (T := TX5) (N := 12) (ci := 5) inXg5 _ (c_HB) rfl 4 (by decide) (lw_g_mk tw_291 rfl) rfl dX5_pays_6 ?_
      refine x_get C (C1 := "HostelBeds$Plan") (T := TX3) (N := 8) (ci := 3) inXg3 _ (c_Pl (by decide)) rfl 4 (by decide) (lw_g_mk tw_263 rfl) rfl dX5_pays_9 ?_
      refine x_iload_n C dX5_pays_12 rfl 1 rfl ?_
      obtain ⟨hg7, h⟩ := gd_some h
      refine x_iald C _ (c_Paid (by decide)) hg7 dX5_pays_13 ?_
      cases h
      exact hret _ rfl _ _ _ _ dX5_pays_14 rfl (by decide) (by decide)
    · cases hv3
  · rcases q1 with x2 | e3
    · cases hv5
    · rw [Sum.elim_inr] at h
      have hv5 : (Sum.inr e3 : Option Value ⊕ Nat) = .inr k4 := hv5
      cases hv5
      cases h
      exact hout _ rfl _ _ _ _ _ (by decide) (by decide)
def fX5_walkCost (σ : Mem) : Option (Int32) := (some (rI σ 56 0 0))
set_option maxHeartbeats 4000000 in
set_option maxRecDepth 100000 in
theorem okX5_walkCost (l : Launch) (cy : Nat → ClassId) (D : va_G) (B : Nat) (ek : EK) (σ μ ω : Mem) (res : Int32) (h : fX5_walkCost σ = some res) : CT l cy D B ek yX5_walkCost cX5_walkCost 1 (some .int) ({ frames := 0, cells := 0, slots := 0, locals := 0 } : Room) [.ref (B + oHB)] σ μ ω (some (.int res)) σ μ ω := by
  refine met_X (own := "HostelBeds") (by decide) rfl (Nat.le_of_ble_eq_true rfl) ?_
  intro p e s m args below meth c C hrT hlk
  have hret : ∀ (pc9 : Nat) (lcs9 : List (Nat × Value)), decode cX5_walkCost pc9 = .ok (.ireturn, 1) → narrow .int (.int res) = .int res → X p l e ({ frames := 0, cells := 0, slots := 0, locals := 0 } : Room) s m args below meth c 1 cy D B 0 0 (MQ below (QR cy D B (some (.int res)) σ μ ω) args s 0 0 (aB B)) pc9 lcs9 [.int res] σ μ ω := fun _ _ hd hn => x_zret C hrT hlk hn hd
  generalize (MQ below (QR cy D B (some (.int res)) σ μ ω) args s 0 0 (aB B)) = Q at hret ⊢
  obtain ⟨R, hR9⟩ : ∃ R : Room, R = ({ frames := 0, cells := 0, slots := 0, locals := 0 } : Room) := ⟨_, rfl⟩
  rw [← hR9] at hret ⊢
  unfold fX5_walkCost at h
  show X p l e R s m args below meth c 1 cy D B 0 0 Q 0 [(0, .ref (B + oHB))] [] σ μ ω
  refine x_aload_n C dX5_walkCost_0 rfl 0 rfl ?_
  refine x_get C (C1 := "HostelBeds") (T := TX5) (N := 12) (ci := 5) inXg5 _ (c_HB) rfl 4 (by decide) (lw_g_mk tw_291 rfl) rfl dX5_walkCost_1 ?_
  refine x_get C (C1 := "HostelBeds$Plan") (T := TX3) (N := 8) (ci := 3) inXg3 _ (c_Pl (by decide)) rfl 6 (by decide) (lw_g_mk tw_267 rfl) rfl dX5_walkCost_4 ?_
  cases h
  exact hret _ _ dX5_walkCost_7 rfl
def fX5_net (σ : Mem) : Option (Int32) := (some ((rI σ 55 0 0) - (rI σ 56 0 0)))
set_option maxHeartbeats 4000000 in
set_option maxRecDepth 100000 in
theorem okX5_net (l : Launch) (cy : Nat → ClassId) (D : va_G) (B : Nat) (ek : EK) (σ μ ω : Mem) (res : Int32) (h : fX5_net σ = some res) : CT l cy D B ek yX5_net cX5_net 1 (some .int) ({ frames := 0, cells := 0, slots := 0, locals := 0 } : Room) [.ref (B + oHB)] σ μ ω (some (.int res)) σ μ ω := by
  refine met_X (own := "HostelBeds") (by decide) rfl (Nat.le_of_ble_eq_true rfl) ?_
  intro p e s m args below meth c C hrT hlk
  have hret : ∀ (pc9 : Nat) (lcs9 : List (Nat × Value)), decode cX5_net pc9 = .ok (.ireturn, 1) → narrow .int (.int res) = .int res → X p l e ({ frames := 0, cells := 0, slots := 0, locals := 0 } : Room) s m args below meth c 1 cy D B 0 0 (MQ below (QR cy D B (some (.int res)) σ μ ω) args s 0 0 (aB B)) pc9 lcs9 [.int res] σ μ ω := fun _ _ hd hn => x_zret C hrT hlk hn hd
  generalize (MQ below (QR cy D B (some (.int res)) σ μ ω) args s 0 0 (aB B)) = Q at hret ⊢
  obtain ⟨R, hR9⟩ : ∃ R : Room, R = ({ frames := 0, cells := 0, slots := 0, locals := 0 } : Room) := ⟨_, rfl⟩
  rw [← hR9] at hret ⊢
  unfold fX5_net at h
  show X p l e R s m args below meth c 1 cy D B 0 0 Q 0 [(0, .ref (B + oHB))] [] σ μ ω
  refine x_aload_n C dX5_net_0 rfl 0 rfl ?_
  refine x_get C (C1 := "HostelBeds") (T := TX5) (N := 12) (ci := 5) inXg5 _ (c_HB) rfl 4 (by decide) (lw_g_mk tw_291 rfl) rfl dX5_net_1 ?_
  refine x_get C (C1 := "HostelBeds$Plan") (T := TX3) (N := 8) (ci := 3) inXg3 _ (c_Pl (by decide)) rfl 5 (by decide) (lw_g_mk tw_265 rfl) rfl dX5_net_4 ?_
  refine x_aload_n C dX5_net_7 rfl 0 rfl ?_
  refine x_get C (C1 := "HostelBeds") (T := TX5) (N := 12) (ci := 5) inXg5 _ (c_HB) rfl 4 (by decide) (lw_g_mk tw_291 rfl) rfl dX5_net_8 ?_
  refine x_get C (C1 := "HostelBeds$Plan") (T := TX3) (N := 8) (ci := 3) inXg3 _ (c_Pl (by decide)) rfl 6 (by decide) (lw_g_mk tw_267 rfl) rfl dX5_net_11 ?_
  refine x_isub C dX5_net_14 ?_
  cases h
  exact hret _ _ dX5_net_15 rfl
def jX5_addToOdds_33 (a9 : Int32 × Mem) (p2 : UInt64) (t1 : UInt64) : Option ((Int32 × Mem) ⊕ (Mem)) := (gd (inb a9.1 193) (gd (n64 (FP.dsub FP.dconst1 p2)) (gd (n64 (FP.dmul (rD a9.2 0 0 a9.1.toNatClampNeg) (FP.dsub FP.dconst1 p2))) (gd (n64 (FP.dmul t1 p2)) (gd (n64 (FP.dadd (FP.dmul (rD a9.2 0 0 a9.1.toNatClampNeg) (FP.dsub FP.dconst1 p2)) (FP.dmul t1 p2))) (some (.inl (a9.1 + (-1 : Int32), wD a9.2 0 0 a9.1.toNatClampNeg (FP.dadd (FP.dmul (rD a9.2 0 0 a9.1.toNatClampNeg) (FP.dsub FP.dconst1 p2)) (FP.dmul t1 p2))))))))))
def stX5_addToOdds_9 (p1 : Int32) (p2 : UInt64) (a9 : Int32 × Mem) : Option ((Int32 × Mem) ⊕ (Mem)) := (if a9.1 < 0 then (some (.inr a9.2)) else (if a9.1 < p1 then (jX5_addToOdds_33 a9 p2 FP.dconst0) else (gd (inb (a9.1 - p1) 193) (jX5_addToOdds_33 a9 p2 (rD a9.2 0 0 (a9.1 - p1).toNatClampNeg)))))
def fX5_addToOdds (p1 : Int32) (p2 : UInt64) (σ : Mem) : Option (Mem) := ((loop (stX5_addToOdds_9 p1 p2) 5000 ((193 : Int32) - (1 : Int32), σ)).bind fun b9 => (some b9))
set_option maxHeartbeats 4000000 in
set_option maxRecDepth 100000 in
theorem okX5_addToOdds (l : Launch) (cy : Nat → ClassId) (D : va_G) (B : Nat) (ek : EK) (p1 : Int32) (p2 : UInt64) (σ μ ω : Mem) (res : Mem) (h : fX5_addToOdds p1 p2 σ = some res) : CT l cy D B ek yX5_addToOdds cX5_addToOdds 7 none ({ frames := 0, cells := 0, slots := 0, locals := 0 } : Room) [.ref (B + oHB), .int p1, .double p2] σ μ ω none res μ ω := by
  refine met_X (own := "HostelBeds") (by decide) rfl (Nat.le_of_ble_eq_true rfl) ?_
  intro p e s m args below meth c C hrT hlk
  have hret : ∀ (pc9 : Nat) (lcs9 : List (Nat × Value)), decode cX5_addToOdds pc9 = .ok (.return_, 1) → X p l e ({ frames := 0, cells := 0, slots := 0, locals := 0 } : Room) s m args below meth c 7 cy D B 0 0 (MQ below (QR cy D B none res μ ω) args s 0 0 (aB B)) pc9 lcs9 [] res μ ω := fun _ _ hd => x_vret C hrT hlk hd
  generalize (MQ below (QR cy D B none res μ ω) args s 0 0 (aB B)) = Q at hret ⊢
  obtain ⟨R, hR9⟩ : ∃ R : Room, R = ({ frames := 0, cells := 0, slots := 0, locals := 0 } : Room) := ⟨_, rfl⟩
  rw [← hR9] at hret ⊢
  unfold fX5_addToOdds at h
  show X p l e R s m args below meth c 7 cy D B 0 0 Q 0 [(0, .ref (B + oHB)), (1, .int p1), (2, .double p2)] [] σ μ ω
  refine x_aload_n C dX5_addToOdds_0 rfl 0 rfl ?_
  refine x_get C (C1 := "HostelBeds") (T := TX5) (N := 12) (ci := 5) inXg5 _ (c_HB) rfl 9 (by decide) (lw_g_mk tw_296 rfl) rfl dX5_addToOdds_1 ?_
  refine x_alen C _ 4 (c_Odds) rfl (v := 193) rfl dX5_addToOdds_4 ?_
  refine x_iconst C (v := 1) dX5_addToOdds_5 (by decide) ?_
  refine x_isub C dX5_addToOdds_6 ?_
  refine x_istore C [(4, .int ((193 : Int32) - (1 : Int32))), (0, .ref (B + oHB)), (1, .int p1), (2, .double p2)] dX5_addToOdds_7 (by decide) rfl ?_
  obtain ⟨b9, hk12, h⟩ := Option.bind_eq_some_iff.mp h
  refine x_sub [1, 2, 3, 0] rfl ?_
  refine loop_run (step := stX5_addToOdds_9 p1 p2) (P := fun (a9 : Int32 × Mem) => X p l e R s m args below meth c 7 cy D B 0 0 Q 9 [(0, .ref (B + oHB)), (1, .int p1), (2, .double p2), (4, .int a9.1)] [] a9.2 μ ω) (K := fun (b9 : Mem) => X p l e R s m args below meth c 7 cy D B 0 0 Q 64 [] [] b9 μ ω) ?_ 5000 ((193 : Int32) - (1 : Int32), σ) b9 hk12 ?_
  · intro a9 r h hA1 hB2
    unfold stX5_addToOdds_9 at h
    refine x_iload C dX5_addToOdds_9 3 rfl ?_
    refine x_if_lt C (tgt := 64) dX5_addToOdds_11 (by decide) (fun hc3 => ?_) (fun hc3 => ?_)
    · rw [if_pos hc3] at h
      cases h
      refine x_sub [] rfl ?_
      exact hB2 a9.2 rfl
    · rw [if_neg hc3] at h
      refine x_iload C dX5_addToOdds_14 3 rfl ?_
      refine x_iload_n C dX5_addToOdds_16 rfl 1 rfl ?_
      have hJ9 : ∀ (t1 : UInt64) (r9 : (Int32 × Mem) ⊕ (Mem)), jX5_addToOdds_33 a9 p2 t1 = some r9 → (∀ a2, r9 = .inl a2 → (fun (a9 : Int32 × Mem) => X p l e R s m args below meth c 7 cy D B 0 0 Q 9 [(0, .ref (B + oHB)), (1, .int p1), (2, .double p2), (4, .int a9.1)] [] a9.2 μ ω) a2) → (∀ b2, r9 = .inr b2 → (fun (b9 : Mem) => X p l e R s m args below meth c 7 cy D B 0 0 Q 64 [] [] b9 μ ω) b2) → X p l e R s m args below meth c 7 cy D B 0 0 Q 33 [(0, .ref (B + oHB)), (1, .int p1), (2, .double p2), (4, .int a9.1)] [.double t1] a9.2 μ ω := by
        intro t1 r h hA1 hB2
        unfold jX5_addToOdds_33 at h
        refine x_dstore C [(5, .double t1), (0, .ref (B + oHB)), (1, .int p1), (2, .double p2), (4, .int a9.1)] dX5_addToOdds_33 (by decide) rfl ?_
        refine x_aload_n C dX5_addToOdds_35 rfl 1 rfl ?_
        refine x_get C (C1 := "HostelBeds") (T := TX5) (N := 12) (ci := 5) inXg5 _ (c_HB) rfl 9 (by decide) (lw_g_mk tw_296 rfl) rfl dX5_addToOdds_36 ?_
        refine x_iload C dX5_addToOdds_39 4 rfl ?_
        refine x_aload_n C dX5_addToOdds_41 rfl 1 rfl ?_
        refine x_get C (C1 := "HostelBeds") (T := TX5) (N := 12) (ci := 5) inXg5 _ (c_HB) rfl 9 (by decide) (lw_g_mk tw_296 rfl) rfl dX5_addToOdds_42 ?_
        refine x_iload C dX5_addToOdds_45 4 rfl ?_
        obtain ⟨hg4, h⟩ := gd_some h
        refine x_dald C _ (c_Odds) hg4 dX5_addToOdds_47 ?_
        refine x_dconst1 C dX5_addToOdds_48 ?_
        refine x_dload_n C dX5_addToOdds_49 rfl 3 rfl ?_
        obtain ⟨hg5, h⟩ := gd_some h
        refine x_dsub C dX5_addToOdds_50 hg5 ?_
        obtain ⟨hg6, h⟩ := gd_some h
        refine x_dmul C dX5_addToOdds_51 hg6 ?_
        refine x_dload C dX5_addToOdds_52 0 rfl ?_
        refine x_dload_n C dX5_addToOdds_54 rfl 3 rfl ?_
        obtain ⟨hg7, h⟩ := gd_some h
        refine x_dmul C dX5_addToOdds_55 hg7 ?_
        obtain ⟨hg8, h⟩ := gd_some h
        refine x_dadd C dX5_addToOdds_56 hg8 ?_
        refine x_dast C _ (c_Odds) hg4 dX5_addToOdds_57 (s_Odds) ?_
        refine x_iinc C (k := 4) [(4, .int (a9.1 + (-1 : Int32))), (5, .double t1), (0, .ref (B + oHB)), (1, .int p1), (2, .double p2)] dX5_addToOdds_58 rfl rfl (by decide) rfl ?_
        refine x_goto C (tgt := 9) dX5_addToOdds_61 (by decide) ?_
        cases h
        refine x_sub [2, 3, 4, 0] rfl ?_
        exact hA1 (a9.1 + (-1 : Int32), wD a9.2 0 0 a9.1.toNatClampNeg (FP.dadd (FP.dmul (rD a9.2 0 0 a9.1.toNatClampNeg) (FP.dsub FP.dconst1 p2)) (FP.dmul t1 p2))) rfl
      refine x_icmp_lt C (tgt := 32) dX5_addToOdds_17 (by decide) (fun hc10 => ?_) (fun hc10 => ?_)
      · rw [if_pos hc10] at h
        refine x_dconst0 C dX5_addToOdds_32 ?_
        exact hJ9 FP.dconst0 _ h hA1 hB2
      · rw [if_neg hc10] at h
        refine x_aload_n C dX5_addToOdds_20 rfl 0 rfl ?_
        refine x_get C (C1 := "HostelBeds") (T := TX5) (N := 12) (ci := 5) inXg5 _ (c_HB) rfl 9 (by decide) (lw_g_mk tw_296 rfl) rfl dX5_addToOdds_21 ?_
        refine x_iload C dX5_addToOdds_24 3 rfl ?_
        refine x_iload_n C dX5_addToOdds_26 rfl 1 rfl ?_
        refine x_isub C dX5_addToOdds_27 ?_
        obtain ⟨hg11, h⟩ := gd_some h
        refine x_dald C _ (c_Odds) hg11 dX5_addToOdds_28 ?_
        refine x_goto C (tgt := 33) dX5_addToOdds_29 (by decide) ?_
        exact hJ9 (rD a9.2 0 0 (a9.1 - p1).toNatClampNeg) _ h hA1 hB2
  · show X p l e R s m args below meth c 7 cy D B 0 0 Q 64 [] [] b9 μ ω
    cases h
    exact hret _ _ dX5_addToOdds_64
def stX5_fillOdds_9 (a9 : Int32 × Mem) : Option ((Int32 × Mem) ⊕ (Mem)) := (if (193 : Int32) ≤ a9.1 then (some (.inr a9.2)) else (gd (inb a9.1 193) (some (.inl (a9.1 + (1 : Int32), wD a9.2 0 0 a9.1.toNatClampNeg FP.dconst0)))))
def jX5_fillOdds_87 (a33 : Int32 × Mem) (σ1 : Mem) : Option ((Int32 × Mem) ⊕ (Mem)) := (some (.inl (a33.1 + (1 : Int32), σ1)))
def stX5_fillOdds_33 (p1 : Int32) (a33 : Int32 × Mem) : Option ((Int32 × Mem) ⊕ (Mem)) := (gd (rP a33.2 0 < 12) (if (rI a33.2 22 (rP a33.2 0) 0) ≤ a33.1 then (some (.inr a33.2)) else (gd (inb a33.1 17) (if ¬ (rI a33.2 49 (rP a33.2 0) a33.1.toNatClampNeg) = (1 : Int32) then (jX5_fillOdds_87 a33 a33.2) else ((fX0_staysIn (rP a33.2 0) a33.1.toNatClampNeg p1 a33.2).bind fun q2 => (if q2 = 0 then (jX5_fillOdds_87 a33 a33.2) else (gd (n64 (FP.ddiv (FP.i2d (rI a33.2 46 (rP a33.2 0) a33.1.toNatClampNeg)) (4636737291354636288 : UInt64))) ((fX5_addToOdds (rI a33.2 44 (rP a33.2 0) a33.1.toNatClampNeg) (FP.ddiv (FP.i2d (rI a33.2 46 (rP a33.2 0) a33.1.toNatClampNeg)) (4636737291354636288 : UInt64)) a33.2).bind fun q3 => (jX5_fillOdds_87 a33 q3)))))))))
def fX5_fillOdds (p1 : Int32) (σ : Mem) : Option (Mem) := ((loop (stX5_fillOdds_9) 5000 ((1 : Int32), wD σ 0 0 (0 : Int32).toNatClampNeg FP.dconst1)).bind fun b9 => ((loop (stX5_fillOdds_33 p1) 5000 ((0 : Int32), b9)).bind fun b33 => (some b33)))
set_option maxHeartbeats 4000000 in
set_option maxRecDepth 100000 in
theorem okX5_fillOdds (l : Launch) (cy : Nat → ClassId) (D : va_G) (B : Nat) (ek : EK) (p1 : Int32) (σ μ ω : Mem) (res : Mem) (h : fX5_fillOdds p1 σ = some res) : CT l cy D B ek yX5_fillOdds cX5_fillOdds 4 none ({ frames := 1, cells := 0, slots := 0, locals := 26 } : Room) [.ref (B + oHB), .int p1] σ μ ω none res μ ω := by
  refine met_X (own := "HostelBeds") (by decide) rfl (Nat.le_of_ble_eq_true rfl) ?_
  intro p e s m args below meth c C hrT hlk
  have hret : ∀ (pc9 : Nat) (lcs9 : List (Nat × Value)), decode cX5_fillOdds pc9 = .ok (.return_, 1) → X p l e ({ frames := 1, cells := 0, slots := 0, locals := 26 } : Room) s m args below meth c 4 cy D B 0 0 (MQ below (QR cy D B none res μ ω) args s 0 0 (aB B)) pc9 lcs9 [] res μ ω := fun _ _ hd => x_vret C hrT hlk hd
  generalize (MQ below (QR cy D B none res μ ω) args s 0 0 (aB B)) = Q at hret ⊢
  obtain ⟨R, hR9⟩ : ∃ R : Room, R = ({ frames := 1, cells := 0, slots := 0, locals := 26 } : Room) := ⟨_, rfl⟩
  rw [← hR9] at hret ⊢
  unfold fX5_fillOdds at h
  show X p l e R s m args below meth c 4 cy D B 0 0 Q 0 [(0, .ref (B + oHB)), (1, .int p1)] [] σ μ ω
  refine x_aload_n C dX5_fillOdds_0 rfl 0 rfl ?_
  refine x_get C (C1 := "HostelBeds") (T := TX5) (N := 12) (ci := 5) inXg5 _ (c_HB) rfl 9 (by decide) (lw_g_mk tw_296 rfl) rfl dX5_fillOdds_1 ?_
  refine x_iconst C (v := 0) dX5_fillOdds_4 (by decide) ?_
  refine x_dconst1 C dX5_fillOdds_5 ?_
  refine x_dast C _ (c_Odds) (by decide : inb (0 : Int32) 193) dX5_fillOdds_6 (s_Odds) ?_
  refine x_iconst C (v := 1) dX5_fillOdds_7 (by decide) ?_
  refine x_istore_n C [(2, .int (1 : Int32)), (0, .ref (B + oHB)), (1, .int p1)] dX5_fillOdds_8 rfl (by decide) rfl ?_
  obtain ⟨b9, hk5, h⟩ := Option.bind_eq_some_iff.mp h
  refine x_sub [1, 2, 0] rfl ?_
  refine loop_run (step := stX5_fillOdds_9) (P := fun (a9 : Int32 × Mem) => X p l e R s m args below meth c 4 cy D B 0 0 Q 9 [(0, .ref (B + oHB)), (1, .int p1), (2, .int a9.1)] [] a9.2 μ ω) (K := fun (b9 : Mem) => X p l e R s m args below meth c 4 cy D B 0 0 Q 31 [(0, .ref (B + oHB)), (1, .int p1)] [] b9 μ ω) ?_ 5000 ((1 : Int32), wD σ 0 0 (0 : Int32).toNatClampNeg FP.dconst1) b9 hk5 ?_
  · intro a9 r h hA1 hB2
    unfold stX5_fillOdds_9 at h
    refine x_iload_n C dX5_fillOdds_9 rfl 2 rfl ?_
    refine x_aload_n C dX5_fillOdds_10 rfl 0 rfl ?_
    refine x_get C (C1 := "HostelBeds") (T := TX5) (N := 12) (ci := 5) inXg5 _ (c_HB) rfl 9 (by decide) (lw_g_mk tw_296 rfl) rfl dX5_fillOdds_11 ?_
    refine x_alen C _ 4 (c_Odds) rfl (v := 193) rfl dX5_fillOdds_14 ?_
    refine x_icmp_ge C (tgt := 31) dX5_fillOdds_15 (by decide) (fun hc3 => ?_) (fun hc3 => ?_)
    · rw [if_pos hc3] at h
      cases h
      refine x_sub [0, 1] rfl ?_
      exact hB2 a9.2 rfl
    · rw [if_neg hc3] at h
      refine x_aload_n C dX5_fillOdds_18 rfl 0 rfl ?_
      refine x_get C (C1 := "HostelBeds") (T := TX5) (N := 12) (ci := 5) inXg5 _ (c_HB) rfl 9 (by decide) (lw_g_mk tw_296 rfl) rfl dX5_fillOdds_19 ?_
      refine x_iload_n C dX5_fillOdds_22 rfl 2 rfl ?_
      refine x_dconst0 C dX5_fillOdds_23 ?_
      obtain ⟨hg4, h⟩ := gd_some h
      refine x_dast C _ (c_Odds) hg4 dX5_fillOdds_24 (s_Odds) ?_
      refine x_iinc C (k := 2) [(2, .int (a9.1 + (1 : Int32))), (0, .ref (B + oHB)), (1, .int p1)] dX5_fillOdds_25 rfl rfl (by decide) rfl ?_
      refine x_goto C (tgt := 9) dX5_fillOdds_28 (by decide) ?_
      cases h
      refine x_sub [1, 2, 0] rfl ?_
      exact hA1 (a9.1 + (1 : Int32), wD a9.2 0 0 a9.1.toNatClampNeg FP.dconst0) rfl
  · show X p l e R s m args below meth c 4 cy D B 0 0 Q 31 [(0, .ref (B + oHB)), (1, .int p1)] [] b9 μ ω
    refine x_iconst C (v := 0) dX5_fillOdds_31 (by decide) ?_
    refine x_istore_n C [(2, .int (0 : Int32)), (0, .ref (B + oHB)), (1, .int p1)] dX5_fillOdds_32 rfl (by decide) rfl ?_
    obtain ⟨b33, hk17, h⟩ := Option.bind_eq_some_iff.mp h
    refine x_sub [1, 2, 0] rfl ?_
    refine loop_run (step := stX5_fillOdds_33 p1) (P := fun (a33 : Int32 × Mem) => X p l e R s m args below meth c 4 cy D B 0 0 Q 33 [(0, .ref (B + oHB)), (1, .int p1), (2, .int a33.1)] [] a33.2 μ ω) (K := fun (b33 : Mem) => X p l e R s m args below meth c 4 cy D B 0 0 Q 93 [] [] b33 μ ω) ?_ 5000 ((0 : Int32), b9) b33 hk17 ?_
    · intro a33 r h hA6 hB7
      unfold stX5_fillOdds_33 at h
      refine x_iload_n C dX5_fillOdds_33 rfl 2 rfl ?_
      refine x_aload_n C dX5_fillOdds_34 rfl 0 rfl ?_
      refine x_get C (C1 := "HostelBeds") (T := TX5) (N := 12) (ci := 5) inXg5 _ (c_HB) rfl 2 (by decide) (lw_g_mk tw_289 rfl) rfl dX5_fillOdds_35 ?_
      obtain ⟨hg8, h⟩ := gd_some h
      refine x_get C (C1 := "HostelBeds$Hostel") (T := TX1) (N := 12) (ci := 1) inXg1 _ (c_Ho hg8) rfl 4 (by decide) (lw_g_mk tw_200 rfl) rfl dX5_fillOdds_38 ?_
      refine x_icmp_ge C (tgt := 93) dX5_fillOdds_41 (by decide) (fun hc9 => ?_) (fun hc9 => ?_)
      · rw [if_pos hc9] at h
        cases h
        refine x_sub [] rfl ?_
        exact hB7 a33.2 rfl
      · rw [if_neg hc9] at h
        refine x_aload_n C dX5_fillOdds_44 rfl 0 rfl ?_
        refine x_get C (C1 := "HostelBeds") (T := TX5) (N := 12) (ci := 5) inXg5 _ (c_HB) rfl 2 (by decide) (lw_g_mk tw_289 rfl) rfl dX5_fillOdds_45 ?_
        refine x_get C (C1 := "HostelBeds$Hostel") (T := TX1) (N := 12) (ci := 1) inXg1 _ (c_Ho hg8) rfl 3 (by decide) (lw_g_mk tw_197 rfl) rfl dX5_fillOdds_48 ?_
        refine x_iload_n C dX5_fillOdds_51 rfl 2 rfl ?_
        obtain ⟨hg10, h⟩ := gd_some h
        refine x_aldq C _ 6 (C1 := "HostelBeds$Booking") (c_Bks hg8) rfl hg10 rfl dX5_fillOdds_52 ?_
        refine x_astore_n C [(3, .ref (B + oBk (rP a33.2 0) a33.1.toNatClampNeg)), (0, .ref (B + oHB)), (1, .int p1), (2, .int a33.1)] dX5_fillOdds_53 rfl (by decide) rfl ?_
        refine x_aload_n C dX5_fillOdds_54 rfl 0 rfl ?_
        refine x_get C (C1 := "HostelBeds$Booking") (T := TX0) (N := 11) (ci := 0) inXg0 _ (c_Bk hg8 (inb_lt hg10)) rfl 10 (by decide) (lw_g_mk tw_151 rfl) rfl dX5_fillOdds_55 ?_
        refine x_iconst C (v := 1) dX5_fillOdds_58 (by decide) ?_
        have hJ11 : ∀ (σ1 : Mem) (r9 : (Int32 × Mem) ⊕ (Mem)), jX5_fillOdds_87 a33 σ1 = some r9 → (∀ a2, r9 = .inl a2 → (fun (a33 : Int32 × Mem) => X p l e R s m args below meth c 4 cy D B 0 0 Q 33 [(0, .ref (B + oHB)), (1, .int p1), (2, .int a33.1)] [] a33.2 μ ω) a2) → (∀ b2, r9 = .inr b2 → (fun (b33 : Mem) => X p l e R s m args below meth c 4 cy D B 0 0 Q 93 [] [] b33 μ ω) b2) → X p l e R s m args below meth c 4 cy D B 0 0 Q 87 [(0, .ref (B + oHB)), (1, .int p1), (2, .int a33.1)] [] σ1 μ ω := by
          intro σ1 r h hA6 hB7
          unfold jX5_fillOdds_87 at h
          refine x_iinc C (k := 2) [(2, .int (a33.1 + (1 : Int32))), (0, .ref (B + oHB)), (1, .int p1)] dX5_fillOdds_87 rfl rfl (by decide) rfl ?_
          refine x_goto C (tgt := 33) dX5_fillOdds_90 (by decide) ?_
          cases h
          refine x_sub [1, 2, 0] rfl ?_
          exact hA6 (a33.1 + (1 : Int32), σ1) rfl
        refine x_icmp_ne C (tgt := 87) dX5_fillOdds_59 (by decide) (fun hc12 => ?_) (fun hc12 => ?_)
        · rw [if_pos hc12] at h
          refine x_sub [1, 2, 3] rfl ?_
          exact hJ11 a33.2 _ h hA6 hB7
        · rw [if_neg hc12] at h
          refine x_aload_n C dX5_fillOdds_62 rfl 0 rfl ?_
          refine x_iload_n C dX5_fillOdds_63 rfl 2 rfl ?_
          obtain ⟨q2, hk13, h⟩ := Option.bind_eq_some_iff.mp h
          refine x_callV C (As := [.int p1]) (rest := []) (lw_g_mk tw_394 rfl) (lw_g_mk tw_395 rfl) (c_Bk hg8 (inb_lt hg10)) (C1 := "HostelBeds$Booking") (T := TX0) (N := 11) (ci := 0) rfl (okX0_staysIn l cy D B ek (rP a33.2 0) a33.1.toNatClampNeg p1 a33.2 μ ω hg8 (inb_lt hg10) _ hk13) rfl rfl (by rw [hR9]; decide) (lw_g_mk tw_396 rfl) (lw_g_mk tw_5 rfl) (by decide) rfl (lw_g_mk tw_891 rfl) rfl (Nat.le_of_ble_eq_true rfl) dX5_fillOdds_64 (by rw [hR9]; decide) ?_
          refine x_if_eq C (tgt := 87) dX5_fillOdds_67 (by decide) (fun hc14 => ?_) (fun hc14 => ?_)
          · rw [if_pos hc14] at h
            refine x_sub [1, 2, 3] rfl ?_
            exact hJ11 a33.2 _ h hA6 hB7
          · rw [if_neg hc14] at h
            refine x_aload_n C dX5_fillOdds_70 rfl 1 rfl ?_
            refine x_aload_n C dX5_fillOdds_71 rfl 0 rfl ?_
            refine x_get C (C1 := "HostelBeds$Booking") (T := TX0) (N := 11) (ci := 0) inXg0 _ (c_Bk hg8 (inb_lt hg10)) rfl 5 (by decide) (lw_g_mk tw_134 rfl) rfl dX5_fillOdds_72 ?_
            refine x_aload_n C dX5_fillOdds_75 rfl 0 rfl ?_
            refine x_get C (C1 := "HostelBeds$Booking") (T := TX0) (N := 11) (ci := 0) inXg0 _ (c_Bk hg8 (inb_lt hg10)) rfl 7 (by decide) (lw_g_mk tw_139 rfl) rfl dX5_fillOdds_76 ?_
            refine x_i2d C dX5_fillOdds_79 ?_
            refine x_ldc2d C (v := 4636737291354636288) (lw_g_mk tw_967 rfl) dX5_fillOdds_80 ?_
            obtain ⟨hg15, h⟩ := gd_some h
            refine x_ddiv C dX5_fillOdds_83 hg15 ?_
            obtain ⟨q3, hk16, h⟩ := Option.bind_eq_some_iff.mp h
            refine x_callV C (As := [.int (rI a33.2 44 (rP a33.2 0) a33.1.toNatClampNeg), .double (FP.ddiv (FP.i2d (rI a33.2 46 (rP a33.2 0) a33.1.toNatClampNeg)) (4636737291354636288 : UInt64))]) (rest := []) (lw_g_mk tw_970 rfl) (lw_g_mk tsel_9 rfl) (c_HB) (C1 := "HostelBeds") (T := TX5) (N := 12) (ci := 5) rfl (okX5_addToOdds l cy D B ek (rI a33.2 44 (rP a33.2 0) a33.1.toNatClampNeg) (FP.ddiv (FP.i2d (rI a33.2 46 (rP a33.2 0) a33.1.toNatClampNeg)) (4636737291354636288 : UInt64)) a33.2 μ ω _ hk16) rfl rfl (by rw [hR9]; decide) (lw_g_mk tw_971 rfl) (lw_g_mk tw_1 rfl) (by decide) rfl (lw_g_mk tw_968 rfl) rfl (Nat.le_of_ble_eq_true rfl) dX5_fillOdds_84 (by rw [hR9]; decide) ?_
            refine x_sub [1, 2, 3] rfl ?_
            exact hJ11 q3 _ h hA6 hB7
    · show X p l e R s m args below meth c 4 cy D B 0 0 Q 93 [] [] b33 μ ω
      cases h
      exact hret _ _ dX5_fillOdds_93
def jX5_chance_31 (q4 : Mem) : Option ((UInt64 ⊕ Nat) × Mem) := (some (.inl FP.dconst0, q4))
def fX5_chance (p1 : Int32) (p2 : Int32) (σ : Mem) : Option ((UInt64 ⊕ Nat) × Mem) := ((fX5_checkNight p1).bind fun q1 => Sum.elim (fun x2 => ((fX5_fillOdds p1 σ).bind fun q4 => (if p2 < 0 then (jX5_chance_31 q4) else (if (193 : Int32) ≤ p2 then (jX5_chance_31 q4) else (gd (inb p2 193) (some (.inl (rD q4 0 0 p2.toNatClampNeg), q4))))))) (fun e3 => (some (.inr e3, σ))) q1)
set_option maxHeartbeats 4000000 in
set_option maxRecDepth 100000 in
theorem okX5_chance (l : Launch) (hlf : l.stackTraces = false) (cy : Nat → ClassId) (D : va_G) (B : Nat) (ek : EK) (p1 : Int32) (p2 : Int32) (σ μ ω : Mem) (res : (UInt64 ⊕ Nat) × Mem) (h : fX5_chance p1 p2 σ = some res) : CTX l cy D B ek yX5_chance cX5_chance 3 (some .double) ({ frames := 7, cells := 1, slots := 6, locals := 140 } : Room) 1 6 [.ref (B + oHB), .int p1, .int p2] σ μ ω (Sum.map (fun x => some (Value.double x)) id res.1) res.2 μ ω := by
  refine met_XX (own := "HostelBeds") (by decide) rfl (Nat.le_of_ble_eq_true rfl) ?_
  intro p e s m args below meth c C hrT hlk htab
  have hret : ∀ (x9 : UInt64), res.1 = .inl x9 → ∀ (cells9 slots9 pc9 : Nat) (lcs9 : List (Nat × Value)), decode cX5_chance pc9 = .ok (.dreturn, 1) → cells9 ≤ 1 → slots9 ≤ 6 → X p l e ({ frames := 7, cells := 1, slots := 6, locals := 140 } : Room) s m args below meth c 3 cy D B cells9 slots9 (vx_MQ below (QX cy D B (Sum.map (fun x => some (Value.double x)) id res.1) res.2 μ ω) (XCX cy D B (Sum.map (fun x => some (Value.double x)) id res.1) res.2 μ ω) args s 1 6 (aB B)) pc9 lcs9 [.double x9] res.2 μ ω := fun x9 hx9 cells9 slots9 pc9 lcs9 hd h1 h2 => by rw [hx9]; exact x_dretX C hrT hlk hd h1 h2
  have hout : ∀ (k9 : Nat), res.1 = .inr k9 → ∀ (cells9 slots9 pc9 : Nat) (lcs9 : List (Nat × Value)) (st9 : List Value), cells9 ≤ 1 → slots9 ≤ 6 → XO p l e ({ frames := 7, cells := 1, slots := 6, locals := 140 } : Room) s m args below meth c 3 cy D B cells9 slots9 (vx_MQ below (QX cy D B (Sum.map (fun x => some (Value.double x)) id res.1) res.2 μ ω) (XCX cy D B (Sum.map (fun x => some (Value.double x)) id res.1) res.2 μ ω) args s 1 6 (aB B)) pc9 lcs9 st9 res.2 μ ω k9 := fun k9 hx9 cells9 slots9 pc9 lcs9 st9 h1 h2 => by rw [hx9]; exact x_out C htab hlk h1 h2
  have hthr : True := trivial
  generalize (vx_MQ below (QX cy D B (Sum.map (fun x => some (Value.double x)) id res.1) res.2 μ ω) (XCX cy D B (Sum.map (fun x => some (Value.double x)) id res.1) res.2 μ ω) args s 1 6 (aB B)) = Q at hret hthr hout ⊢
  obtain ⟨R, hR9⟩ : ∃ R : Room, R = ({ frames := 7, cells := 1, slots := 6, locals := 140 } : Room) := ⟨_, rfl⟩
  rw [← hR9] at hret hout ⊢
  unfold fX5_chance at h
  show X p l e R s m args below meth c 3 cy D B 0 0 Q 0 [(0, .ref (B + oHB)), (1, .int p1), (2, .int p2)] [] σ μ ω
  refine x_iload_n C dX5_chance_0 rfl 1 rfl ?_
  obtain ⟨q1, hk1, h⟩ := Option.bind_eq_some_iff.mp h
  refine x_callSX C (As := [.int p1]) (rest := []) (cells2 := 1) (slots2 := 6) (lw_g_mk tw_888 rfl) (okX5_checkNight l hlf cy D B ek p1 σ μ ω _ hk1) rfl rfl (by rw [hR9]; decide) (lw_g_mk tw_889 rfl) (lw_g_mk tw_1 rfl) (by decide) rfl (lw_g_mk tw_887 rfl) rfl (Nat.le_of_ble_eq_true rfl) dX5_chance_1 (by rw [hR9]; decide) rfl rfl (fun v2 hv3 => ?_) (fun k4 hv5 => ?_)
  · rcases q1 with x2 | e3
    · rw [Sum.elim_inl] at h
      have hv3 : (Sum.inl (none) : Option Value ⊕ Nat) = .inl v2 := hv3
      cases hv3
      refine x_aload_n C dX5_chance_4 rfl 0 rfl ?_
      refine x_iload_n C dX5_chance_5 rfl 1 rfl ?_
      obtain ⟨q4, hk7, h⟩ := Option.bind_eq_some_iff.mp h
      refine x_callV C (As := [.int p1]) (rest := []) (lw_g_mk tw_965 rfl) (lw_g_mk tsel_8 rfl) (c_HB) (C1 := "HostelBeds") (T := TX5) (N := 12) (ci := 5) rfl (okX5_fillOdds l cy D B ek p1 σ μ ω _ hk7) rfl rfl (by rw [hR9]; decide) (lw_g_mk tw_966 rfl) (lw_g_mk tw_1 rfl) (by decide) rfl (lw_g_mk tw_963 rfl) rfl (Nat.le_of_ble_eq_true rfl) dX5_chance_6 (by rw [hR9]; decide) ?_
      refine x_iload_n C dX5_chance_9 rfl 2 rfl ?_
      have hJ8 : ∀ (r9 : (UInt64 ⊕ Nat) × Mem), jX5_chance_31 q4 = some r9 → (∀ (x9 : UInt64), r9.1 = .inl x9 → ∀ (cells9 slots9 pc9 : Nat) (lcs9 : List (Nat × Value)), decode cX5_chance pc9 = .ok (.dreturn, 1) → cells9 ≤ 1 → slots9 ≤ 6 → X p l e R s m args below meth c 3 cy D B cells9 slots9 Q pc9 lcs9 [.double x9] r9.2 μ ω) → (True) → (∀ (k9 : Nat), r9.1 = .inr k9 → ∀ (cells9 slots9 pc9 : Nat) (lcs9 : List (Nat × Value)) (st9 : List Value), cells9 ≤ 1 → slots9 ≤ 6 → XO p l e R s m args below meth c 3 cy D B cells9 slots9 Q pc9 lcs9 st9 r9.2 μ ω k9) → X p l e R s m args below meth c 3 cy D B 1 6 Q 31 [] [] q4 μ ω := by
        intro res9 h hret hthr hout
        unfold jX5_chance_31 at h
        refine x_dconst0 C dX5_chance_31 ?_
        cases h
        exact hret _ rfl _ _ _ _ dX5_chance_32 (by decide) (by decide)
      refine x_if_lt C (tgt := 31) dX5_chance_10 (by decide) (fun hc9 => ?_) (fun hc9 => ?_)
      · rw [if_pos hc9] at h
        refine x_sub [] rfl ?_
        exact hJ8 _ h hret hthr hout
      · rw [if_neg hc9] at h
        refine x_iload_n C dX5_chance_13 rfl 2 rfl ?_
        refine x_aload_n C dX5_chance_14 rfl 0 rfl ?_
        refine x_get C (C1 := "HostelBeds") (T := TX5) (N := 12) (ci := 5) inXg5 _ (c_HB) rfl 9 (by decide) (lw_g_mk tw_296 rfl) rfl dX5_chance_15 ?_
        refine x_alen C _ 4 (c_Odds) rfl (v := 193) rfl dX5_chance_18 ?_
        refine x_icmp_ge C (tgt := 31) dX5_chance_19 (by decide) (fun hc10 => ?_) (fun hc10 => ?_)
        · rw [if_pos hc10] at h
          refine x_sub [] rfl ?_
          exact hJ8 _ h hret hthr hout
        · rw [if_neg hc10] at h
          refine x_aload_n C dX5_chance_22 rfl 0 rfl ?_
          refine x_get C (C1 := "HostelBeds") (T := TX5) (N := 12) (ci := 5) inXg5 _ (c_HB) rfl 9 (by decide) (lw_g_mk tw_296 rfl) rfl dX5_chance_23 ?_
          refine x_iload_n C dX5_chance_26 rfl 2 rfl ?_
          obtain ⟨hg11, h⟩ := gd_some h
          refine x_dald C _ (c_Odds) hg11 dX5_chance_27 ?_
          refine x_goto C (tgt := 32) dX5_chance_28 (by decide) ?_
          cases h
          exact hret _ rfl _ _ _ _ dX5_chance_32 (by decide) (by decide)
    · cases hv3
  · rcases q1 with x2 | e3
    · cases hv5
    · rw [Sum.elim_inr] at h
      have hv5 : (Sum.inr e3 : Option Value ⊕ Nat) = .inr k4 := hv5
      cases hv5
      cases h
      exact hout _ rfl _ _ _ _ _ (by decide) (by decide)
def stX5_risk_22 (q4 : Mem) (a22 : UInt64 × Int32) : Option ((UInt64 × Int32) ⊕ (UInt64)) := (if (193 : Int32) ≤ a22.2 then (some (.inr a22.1)) else (gd (inb a22.2 193) (gd (n64 (FP.dadd a22.1 (rD q4 0 0 a22.2.toNatClampNeg))) (some (.inl (FP.dadd a22.1 (rD q4 0 0 a22.2.toNatClampNeg), a22.2 + (1 : Int32)))))))
def fX5_risk (p1 : Int32) (σ : Mem) : Option ((UInt64 ⊕ Nat) × Mem) := ((fX5_checkNight p1).bind fun q1 => Sum.elim (fun x2 => ((fX5_fillOdds p1 σ).bind fun q4 => (gd (rP q4 0 < 12) ((loop (stX5_risk_22 q4) 5000 (FP.dconst0, (rI q4 21 (rP q4 0) 0) + (1 : Int32))).bind fun b22 => (some (.inl b22, q4)))))) (fun e3 => (some (.inr e3, σ))) q1)
set_option maxHeartbeats 4000000 in
set_option maxRecDepth 100000 in
theorem okX5_risk (l : Launch) (hlf : l.stackTraces = false) (cy : Nat → ClassId) (D : va_G) (B : Nat) (ek : EK) (p1 : Int32) (σ μ ω : Mem) (res : (UInt64 ⊕ Nat) × Mem) (h : fX5_risk p1 σ = some res) : CTX l cy D B ek yX5_risk cX5_risk 5 (some .double) ({ frames := 7, cells := 1, slots := 6, locals := 140 } : Room) 1 6 [.ref (B + oHB), .int p1] σ μ ω (Sum.map (fun x => some (Value.double x)) id res.1) res.2 μ ω := by
  refine met_XX (own := "HostelBeds") (by decide) rfl (Nat.le_of_ble_eq_true rfl) ?_
  intro p e s m args below meth c C hrT hlk htab
  have hret : ∀ (x9 : UInt64), res.1 = .inl x9 → ∀ (cells9 slots9 pc9 : Nat) (lcs9 : List (Nat × Value)), decode cX5_risk pc9 = .ok (.dreturn, 1) → cells9 ≤ 1 → slots9 ≤ 6 → X p l e ({ frames := 7, cells := 1, slots := 6, locals := 140 } : Room) s m args below meth c 5 cy D B cells9 slots9 (vx_MQ below (QX cy D B (Sum.map (fun x => some (Value.double x)) id res.1) res.2 μ ω) (XCX cy D B (Sum.map (fun x => some (Value.double x)) id res.1) res.2 μ ω) args s 1 6 (aB B)) pc9 lcs9 [.double x9] res.2 μ ω := fun x9 hx9 cells9 slots9 pc9 lcs9 hd h1 h2 => by rw [hx9]; exact x_dretX C hrT hlk hd h1 h2
  have hout : ∀ (k9 : Nat), res.1 = .inr k9 → ∀ (cells9 slots9 pc9 : Nat) (lcs9 : List (Nat × Value)) (st9 : List Value), cells9 ≤ 1 → slots9 ≤ 6 → XO p l e ({ frames := 7, cells := 1, slots := 6, locals := 140 } : Room) s m args below meth c 5 cy D B cells9 slots9 (vx_MQ below (QX cy D B (Sum.map (fun x => some (Value.double x)) id res.1) res.2 μ ω) (XCX cy D B (Sum.map (fun x => some (Value.double x)) id res.1) res.2 μ ω) args s 1 6 (aB B)) pc9 lcs9 st9 res.2 μ ω k9 := fun k9 hx9 cells9 slots9 pc9 lcs9 st9 h1 h2 => by rw [hx9]; exact x_out C htab hlk h1 h2
  have hthr : True := trivial
  generalize (vx_MQ below (QX cy D B (Sum.map (fun x => some (Value.double x)) id res.1) res.2 μ ω) (XCX cy D B (Sum.map (fun x => some (Value.double x)) id res.1) res.2 μ ω) args s 1 6 (aB B)) = Q at hret hthr hout ⊢
  obtain ⟨R, hR9⟩ : ∃ R : Room, R = ({ frames := 7, cells := 1, slots := 6, locals := 140 } : Room) := ⟨_, rfl⟩
  rw [← hR9] at hret hout ⊢
  unfold fX5_risk at h
  show X p l e R s m args below meth c 5 cy D B 0 0 Q 0 [(0, .ref (B + oHB)), (1, .int p1)] [] σ μ ω
  refine x_iload_n C dX5_risk_0 rfl 1 rfl ?_
  obtain ⟨q1, hk1, h⟩ := Option.bind_eq_some_iff.mp h
  refine x_callSX C (As := [.int p1]) (rest := []) (cells2 := 1) (slots2 := 6) (lw_g_mk tw_888 rfl) (okX5_checkNight l hlf cy D B ek p1 σ μ ω _ hk1) rfl rfl (by rw [hR9]; decide) (lw_g_mk tw_889 rfl) (lw_g_mk tw_1 rfl) (by decide) rfl (lw_g_mk tw_887 rfl) rfl (Nat.le_of_ble_eq_true rfl) dX5_risk_1 (by rw [hR9]; decide) rfl rfl (fun v2 hv3 => ?_) (fun k4 hv5 => ?_)
  · rcases q1 with x2 | e3
    · rw [Sum.elim_inl] at h
      have hv3 : (Sum.inl (none) : Option Value ⊕ Nat) = .inl v2 := hv3
      cases hv3
      refine x_aload_n C dX5_risk_4 rfl 0 rfl ?_
      refine x_iload_n C dX5_risk_5 rfl 1 rfl ?_
      obtain ⟨q4, hk7, h⟩ := Option.bind_eq_some_iff.mp h
      refine x_callV C (As := [.int p1]) (rest := []) (lw_g_mk tw_965 rfl) (lw_g_mk tsel_8 rfl) (c_HB) (C1 := "HostelBeds") (T := TX5) (N := 12) (ci := 5) rfl (okX5_fillOdds l cy D B ek p1 σ μ ω _ hk7) rfl rfl (by rw [hR9]; decide) (lw_g_mk tw_966 rfl) (lw_g_mk tw_1 rfl) (by decide) rfl (lw_g_mk tw_963 rfl) rfl (Nat.le_of_ble_eq_true rfl) dX5_risk_6 (by rw [hR9]; decide) ?_
      refine x_dconst0 C dX5_risk_9 ?_
      refine x_dstore_n C [(2, .double FP.dconst0), (0, .ref (B + oHB)), (1, .int p1)] dX5_risk_10 rfl (by decide) rfl ?_
      refine x_aload_n C dX5_risk_11 rfl 1 rfl ?_
      refine x_get C (C1 := "HostelBeds") (T := TX5) (N := 12) (ci := 5) inXg5 _ (c_HB) rfl 2 (by decide) (lw_g_mk tw_289 rfl) rfl dX5_risk_12 ?_
      obtain ⟨hg8, h⟩ := gd_some h
      refine x_get C (C1 := "HostelBeds$Hostel") (T := TX1) (N := 12) (ci := 1) inXg1 _ (c_Ho hg8) rfl 2 (by decide) (lw_g_mk tw_193 rfl) rfl dX5_risk_15 ?_
      refine x_iconst C (v := 1) dX5_risk_18 (by decide) ?_
      refine x_iadd C dX5_risk_19 ?_
      refine x_istore C [(4, .int ((rI q4 21 (rP q4 0) 0) + (1 : Int32))), (2, .double FP.dconst0), (0, .ref (B + oHB)), (1, .int p1)] dX5_risk_20 (by decide) rfl ?_
      obtain ⟨b22, hk14, h⟩ := Option.bind_eq_some_iff.mp h
      refine x_sub [2, 1, 0] rfl ?_
      refine loop_run (step := stX5_risk_22 q4) (P := fun (a22 : UInt64 × Int32) => X p l e R s m args below meth c 5 cy D B 1 6 Q 22 [(0, .ref (B + oHB)), (2, .double a22.1), (4, .int a22.2)] [] q4 μ ω) (K := fun (b22 : UInt64) => X p l e R s m args below meth c 5 cy D B 1 6 Q 48 [(2, .double b22)] [] q4 μ ω) ?_ 5000 (FP.dconst0, (rI q4 21 (rP q4 0) 0) + (1 : Int32)) b22 hk14 ?_
      · intro a22 r h hA9 hB10
        unfold stX5_risk_22 at h
        refine x_iload C dX5_risk_22 2 rfl ?_
        refine x_aload_n C dX5_risk_24 rfl 0 rfl ?_
        refine x_get C (C1 := "HostelBeds") (T := TX5) (N := 12) (ci := 5) inXg5 _ (c_HB) rfl 9 (by decide) (lw_g_mk tw_296 rfl) rfl dX5_risk_25 ?_
        refine x_alen C _ 4 (c_Odds) rfl (v := 193) rfl dX5_risk_28 ?_
        refine x_icmp_ge C (tgt := 48) dX5_risk_29 (by decide) (fun hc11 => ?_) (fun hc11 => ?_)
        · rw [if_pos hc11] at h
          cases h
          refine x_sub [1] rfl ?_
          exact hB10 a22.1 rfl
        · rw [if_neg hc11] at h
          refine x_dload_n C dX5_risk_32 rfl 1 rfl ?_
          refine x_aload_n C dX5_risk_33 rfl 0 rfl ?_
          refine x_get C (C1 := "HostelBeds") (T := TX5) (N := 12) (ci := 5) inXg5 _ (c_HB) rfl 9 (by decide) (lw_g_mk tw_296 rfl) rfl dX5_risk_34 ?_
          refine x_iload C dX5_risk_37 2 rfl ?_
          obtain ⟨hg12, h⟩ := gd_some h
          refine x_dald C _ (c_Odds) hg12 dX5_risk_39 ?_
          obtain ⟨hg13, h⟩ := gd_some h
          refine x_dadd C dX5_risk_40 hg13 ?_
          refine x_dstore_n C [(2, .double (FP.dadd a22.1 (rD q4 0 0 a22.2.toNatClampNeg))), (0, .ref (B + oHB)), (4, .int a22.2)] dX5_risk_41 rfl (by decide) rfl ?_
          refine x_iinc C (k := 2) [(4, .int (a22.2 + (1 : Int32))), (2, .double (FP.dadd a22.1 (rD q4 0 0 a22.2.toNatClampNeg))), (0, .ref (B + oHB))] dX5_risk_42 rfl rfl (by decide) rfl ?_
          refine x_goto C (tgt := 22) dX5_risk_45 (by decide) ?_
          cases h
          refine x_sub [2, 1, 0] rfl ?_
          exact hA9 (FP.dadd a22.1 (rD q4 0 0 a22.2.toNatClampNeg), a22.2 + (1 : Int32)) rfl
      · show X p l e R s m args below meth c 5 cy D B 1 6 Q 48 [(2, .double b22)] [] q4 μ ω
        refine x_dload_n C dX5_risk_48 rfl 0 rfl ?_
        cases h
        exact hret _ rfl _ _ _ _ dX5_risk_49 (by decide) (by decide)
    · cases hv3
  · rcases q1 with x2 | e3
    · cases hv5
    · rw [Sum.elim_inr] at h
      have hv5 : (Sum.inr e3 : Option Value ⊕ Nat) = .inr k4 := hv5
      cases hv5
      cases h
      exact hout _ rfl _ _ _ _ _ (by decide) (by decide)
def stX5_expectedWalks_22 (q4 : Mem) (a22 : UInt64 × Int32) : Option ((UInt64 × Int32) ⊕ (UInt64)) := (if (193 : Int32) ≤ a22.2 then (some (.inr a22.1)) else (gd (inb a22.2 193) (gd (n64 (FP.dmul (FP.i2d (a22.2 - (rI q4 21 (rP q4 0) 0))) (rD q4 0 0 a22.2.toNatClampNeg))) (gd (n64 (FP.dadd a22.1 (FP.dmul (FP.i2d (a22.2 - (rI q4 21 (rP q4 0) 0))) (rD q4 0 0 a22.2.toNatClampNeg)))) (some (.inl (FP.dadd a22.1 (FP.dmul (FP.i2d (a22.2 - (rI q4 21 (rP q4 0) 0))) (rD q4 0 0 a22.2.toNatClampNeg)), a22.2 + (1 : Int32))))))))
def fX5_expectedWalks (p1 : Int32) (σ : Mem) : Option ((UInt64 ⊕ Nat) × Mem) := ((fX5_checkNight p1).bind fun q1 => Sum.elim (fun x2 => ((fX5_fillOdds p1 σ).bind fun q4 => (gd (rP q4 0 < 12) ((loop (stX5_expectedWalks_22 q4) 5000 (FP.dconst0, (rI q4 21 (rP q4 0) 0) + (1 : Int32))).bind fun b22 => (some (.inl b22, q4)))))) (fun e3 => (some (.inr e3, σ))) q1)
set_option maxHeartbeats 4000000 in
set_option maxRecDepth 100000 in
theorem okX5_expectedWalks (l : Launch) (hlf : l.stackTraces = false) (cy : Nat → ClassId) (D : va_G) (B : Nat) (ek : EK) (p1 : Int32) (σ μ ω : Mem) (res : (UInt64 ⊕ Nat) × Mem) (h : fX5_expectedWalks p1 σ = some res) : CTX l cy D B ek yX5_expectedWalks cX5_expectedWalks 5 (some .double) ({ frames := 7, cells := 1, slots := 6, locals := 140 } : Room) 1 6 [.ref (B + oHB), .int p1] σ μ ω (Sum.map (fun x => some (Value.double x)) id res.1) res.2 μ ω := by
  refine met_XX (own := "HostelBeds") (by decide) rfl (Nat.le_of_ble_eq_true rfl) ?_
  intro p e s m args below meth c C hrT hlk htab
  have hret : ∀ (x9 : UInt64), res.1 = .inl x9 → ∀ (cells9 slots9 pc9 : Nat) (lcs9 : List (Nat × Value)), decode cX5_expectedWalks pc9 = .ok (.dreturn, 1) → cells9 ≤ 1 → slots9 ≤ 6 → X p l e ({ frames := 7, cells := 1, slots := 6, locals := 140 } : Room) s m args below meth c 5 cy D B cells9 slots9 (vx_MQ below (QX cy D B (Sum.map (fun x => some (Value.double x)) id res.1) res.2 μ ω) (XCX cy D B (Sum.map (fun x => some (Value.double x)) id res.1) res.2 μ ω) args s 1 6 (aB B)) pc9 lcs9 [.double x9] res.2 μ ω := fun x9 hx9 cells9 slots9 pc9 lcs9 hd h1 h2 => by rw [hx9]; exact x_dretX C hrT hlk hd h1 h2
  have hout : ∀ (k9 : Nat), res.1 = .inr k9 → ∀ (cells9 slots9 pc9 : Nat) (lcs9 : List (Nat × Value)) (st9 : List Value), cells9 ≤ 1 → slots9 ≤ 6 → XO p l e ({ frames := 7, cells := 1, slots := 6, locals := 140 } : Room) s m args below meth c 5 cy D B cells9 slots9 (vx_MQ below (QX cy D B (Sum.map (fun x => some (Value.double x)) id res.1) res.2 μ ω) (XCX cy D B (Sum.map (fun x => some (Value.double x)) id res.1) res.2 μ ω) args s 1 6 (aB B)) pc9 lcs9 st9 res.2 μ ω k9 := fun k9 hx9 cells9 slots9 pc9 lcs9 st9 h1 h2 => by rw [hx9]; exact x_out C htab hlk h1 h2
  have hthr : True := trivial
  generalize (vx_MQ below (QX cy D B (Sum.map (fun x => some (Value.double x)) id res.1) res.2 μ ω) (XCX cy D B (Sum.map (fun x => some (Value.double x)) id res.1) res.2 μ ω) args s 1 6 (aB B)) = Q at hret hthr hout ⊢
  obtain ⟨R, hR9⟩ : ∃ R : Room, R = ({ frames := 7, cells := 1, slots := 6, locals := 140 } : Room) := ⟨_, rfl⟩
  rw [← hR9] at hret hout ⊢
  unfold fX5_expectedWalks at h
  show X p l e R s m args below meth c 5 cy D B 0 0 Q 0 [(0, .ref (B + oHB)), (1, .int p1)] [] σ μ ω
  refine x_iload_n C dX5_expectedWalks_0 rfl 1 rfl ?_
  obtain ⟨q1, hk1, h⟩ := Option.bind_eq_some_iff.mp h
  refine x_callSX C (As := [.int p1]) (rest := []) (cells2 := 1) (slots2 := 6) (lw_g_mk tw_888 rfl) (okX5_checkNight l hlf cy D B ek p1 σ μ ω _ hk1) rfl rfl (by rw [hR9]; decide) (lw_g_mk tw_889 rfl) (lw_g_mk tw_1 rfl) (by decide) rfl (lw_g_mk tw_887 rfl) rfl (Nat.le_of_ble_eq_true rfl) dX5_expectedWalks_1 (by rw [hR9]; decide) rfl rfl (fun v2 hv3 => ?_) (fun k4 hv5 => ?_)
  · rcases q1 with x2 | e3
    · rw [Sum.elim_inl] at h
      have hv3 : (Sum.inl (none) : Option Value ⊕ Nat) = .inl v2 := hv3
      cases hv3
      refine x_aload_n C dX5_expectedWalks_4 rfl 0 rfl ?_
      refine x_iload_n C dX5_expectedWalks_5 rfl 1 rfl ?_
      obtain ⟨q4, hk7, h⟩ := Option.bind_eq_some_iff.mp h
      refine x_callV C (As := [.int p1]) (rest := []) (lw_g_mk tw_965 rfl) (lw_g_mk tsel_8 rfl) (c_HB) (C1 := "HostelBeds") (T := TX5) (N := 12) (ci := 5) rfl (okX5_fillOdds l cy D B ek p1 σ μ ω _ hk7) rfl rfl (by rw [hR9]; decide) (lw_g_mk tw_966 rfl) (lw_g_mk tw_1 rfl) (by decide) rfl (lw_g_mk tw_963 rfl) rfl (Nat.le_of_ble_eq_true rfl) dX5_expectedWalks_6 (by rw [hR9]; decide) ?_
      refine x_dconst0 C dX5_expectedWalks_9 ?_
      refine x_dstore_n C [(2, .double FP.dconst0), (0, .ref (B + oHB)), (1, .int p1)] dX5_expectedWalks_10 rfl (by decide) rfl ?_
      refine x_aload_n C dX5_expectedWalks_11 rfl 1 rfl ?_
      refine x_get C (C1 := "HostelBeds") (T := TX5) (N := 12) (ci := 5) inXg5 _ (c_HB) rfl 2 (by decide) (lw_g_mk tw_289 rfl) rfl dX5_expectedWalks_12 ?_
      obtain ⟨hg8, h⟩ := gd_some h
      refine x_get C (C1 := "HostelBeds$Hostel") (T := TX1) (N := 12) (ci := 1) inXg1 _ (c_Ho hg8) rfl 2 (by decide) (lw_g_mk tw_193 rfl) rfl dX5_expectedWalks_15 ?_
      refine x_iconst C (v := 1) dX5_expectedWalks_18 (by decide) ?_
      refine x_iadd C dX5_expectedWalks_19 ?_
      refine x_istore C [(4, .int ((rI q4 21 (rP q4 0) 0) + (1 : Int32))), (2, .double FP.dconst0), (0, .ref (B + oHB)), (1, .int p1)] dX5_expectedWalks_20 (by decide) rfl ?_
      obtain ⟨b22, hk15, h⟩ := Option.bind_eq_some_iff.mp h
      refine x_sub [2, 1, 0] rfl ?_
      refine loop_run (step := stX5_expectedWalks_22 q4) (P := fun (a22 : UInt64 × Int32) => X p l e R s m args below meth c 5 cy D B 1 6 Q 22 [(0, .ref (B + oHB)), (2, .double a22.1), (4, .int a22.2)] [] q4 μ ω) (K := fun (b22 : UInt64) => X p l e R s m args below meth c 5 cy D B 1 6 Q 60 [(2, .double b22)] [] q4 μ ω) ?_ 5000 (FP.dconst0, (rI q4 21 (rP q4 0) 0) + (1 : Int32)) b22 hk15 ?_
      · intro a22 r h hA9 hB10
        unfold stX5_expectedWalks_22 at h
        refine x_iload C dX5_expectedWalks_22 2 rfl ?_
        refine x_aload_n C dX5_expectedWalks_24 rfl 0 rfl ?_
        refine x_get C (C1 := "HostelBeds") (T := TX5) (N := 12) (ci := 5) inXg5 _ (c_HB) rfl 9 (by decide) (lw_g_mk tw_296 rfl) rfl dX5_expectedWalks_25 ?_
        refine x_alen C _ 4 (c_Odds) rfl (v := 193) rfl dX5_expectedWalks_28 ?_
        refine x_icmp_ge C (tgt := 60) dX5_expectedWalks_29 (by decide) (fun hc11 => ?_) (fun hc11 => ?_)
        · rw [if_pos hc11] at h
          cases h
          refine x_sub [1] rfl ?_
          exact hB10 a22.1 rfl
        · rw [if_neg hc11] at h
          refine x_dload_n C dX5_expectedWalks_32 rfl 1 rfl ?_
          refine x_iload C dX5_expectedWalks_33 2 rfl ?_
          refine x_aload_n C dX5_expectedWalks_35 rfl 0 rfl ?_
          refine x_get C (C1 := "HostelBeds") (T := TX5) (N := 12) (ci := 5) inXg5 _ (c_HB) rfl 2 (by decide) (lw_g_mk tw_289 rfl) rfl dX5_expectedWalks_36 ?_
          refine x_get C (C1 := "HostelBeds$Hostel") (T := TX1) (N := 12) (ci := 1) inXg1 _ (c_Ho hg8) rfl 2 (by decide) (lw_g_mk tw_193 rfl) rfl dX5_expectedWalks_39 ?_
          refine x_isub C dX5_expectedWalks_42 ?_
          refine x_i2d C dX5_expectedWalks_43 ?_
          refine x_aload_n C dX5_expectedWalks_44 rfl 0 rfl ?_
          refine x_get C (C1 := "HostelBeds") (T := TX5) (N := 12) (ci := 5) inXg5 _ (c_HB) rfl 9 (by decide) (lw_g_mk tw_296 rfl) rfl dX5_expectedWalks_45 ?_
          refine x_iload C dX5_expectedWalks_48 2 rfl ?_
          obtain ⟨hg12, h⟩ := gd_some h
          refine x_dald C _ (c_Odds) hg12 dX5_expectedWalks_50 ?_
          obtain ⟨hg13, h⟩ := gd_some h
          refine x_dmul C dX5_expectedWalks_51 hg13 ?_
          obtain ⟨hg14, h⟩ := gd_some h
          refine x_dadd C dX5_expectedWalks_52 hg14 ?_
          refine x_dstore_n C [(2, .double (FP.dadd a22.1 (FP.dmul (FP.i2d (a22.2 - (rI q4 21 (rP q4 0) 0))) (rD q4 0 0 a22.2.toNatClampNeg)))), (0, .ref (B + oHB)), (4, .int a22.2)] dX5_expectedWalks_53 rfl (by decide) rfl ?_
          refine x_iinc C (k := 2) [(4, .int (a22.2 + (1 : Int32))), (2, .double (FP.dadd a22.1 (FP.dmul (FP.i2d (a22.2 - (rI q4 21 (rP q4 0) 0))) (rD q4 0 0 a22.2.toNatClampNeg)))), (0, .ref (B + oHB))] dX5_expectedWalks_54 rfl rfl (by decide) rfl ?_
          refine x_goto C (tgt := 22) dX5_expectedWalks_57 (by decide) ?_
          cases h
          refine x_sub [2, 1, 0] rfl ?_
          exact hA9 (FP.dadd a22.1 (FP.dmul (FP.i2d (a22.2 - (rI q4 21 (rP q4 0) 0))) (rD q4 0 0 a22.2.toNatClampNeg)), a22.2 + (1 : Int32)) rfl
      · show X p l e R s m args below meth c 5 cy D B 1 6 Q 60 [(2, .double b22)] [] q4 μ ω
        refine x_dload_n C dX5_expectedWalks_60 rfl 0 rfl ?_
        cases h
        exact hret _ rfl _ _ _ _ dX5_expectedWalks_61 (by decide) (by decide)
    · cases hv3
  · rcases q1 with x2 | e3
    · cases hv5
    · rw [Sum.elim_inr] at h
      have hv5 : (Sum.inr e3 : Option Value ⊕ Nat) = .inr k4 := hv5
      cases hv5
      cases h
      exact hout _ rfl _ _ _ _ _ (by decide) (by decide)
def fX5_addToSpare (p1 : Int32) (p2 : Int32) (p3 : Int32) (p4 : Int32) (p5 : Int32) (σ : Mem) : Option (Int32 × Mem) := (gd (rP σ 1 < 12) (gd (rP σ 0 < 12) ((fX1_copy (rP σ 1) (rP σ 0) σ).bind fun q1 => (gd (rP q1 1 < 12) (gd (inb (rI q1 22 (rP q1 1) 0) 17) ((fX0_fill (rP q1 1) ((rI q1 22 (rP q1 1) 0).toNatClampNeg) p1 p2 p3 p4 p5 (100 : Int32) q1).bind fun q2 => (gd (rP q2 1 < 12) (gd (rP (wI q2 49 (rP q2 1) ((rI q1 22 (rP q1 1) 0).toNatClampNeg) (1 : Int32)) 1 < 12) (some (rI q1 22 (rP q1 1) 0, wI (wI q2 49 (rP q2 1) ((rI q1 22 (rP q1 1) 0).toNatClampNeg) (1 : Int32)) 22 (rP (wI q2 49 (rP q2 1) ((rI q1 22 (rP q1 1) 0).toNatClampNeg) (1 : Int32)) 1) 0 ((rI (wI q2 49 (rP q2 1) ((rI q1 22 (rP q1 1) 0).toNatClampNeg) (1 : Int32)) 22 (rP (wI q2 49 (rP q2 1) ((rI q1 22 (rP q1 1) 0).toNatClampNeg) (1 : Int32)) 1) 0) + (1 : Int32))))))))))))
set_option maxHeartbeats 4000000 in
set_option maxRecDepth 100000 in
theorem okX5_addToSpare (l : Launch) (cy : Nat → ClassId) (D : va_G) (B : Nat) (ek : EK) (p1 : Int32) (p2 : Int32) (p3 : Int32) (p4 : Int32) (p5 : Int32) (σ μ ω : Mem) (res : Int32 × Mem) (h : fX5_addToSpare p1 p2 p3 p4 p5 σ = some res) : CT l cy D B ek yX5_addToSpare cX5_addToSpare 7 (some .int) ({ frames := 3, cells := 0, slots := 0, locals := 69 } : Room) [.ref (B + oHB), .int p1, .int p2, .int p3, .int p4, .int p5] σ μ ω (some (.int res.1)) res.2 μ ω := by
  refine met_X (own := "HostelBeds") (by decide) rfl (Nat.le_of_ble_eq_true rfl) ?_
  intro p e s m args below meth c C hrT hlk
  have hret : ∀ (pc9 : Nat) (lcs9 : List (Nat × Value)), decode cX5_addToSpare pc9 = .ok (.ireturn, 1) → narrow .int (.int res.1) = .int res.1 → X p l e ({ frames := 3, cells := 0, slots := 0, locals := 69 } : Room) s m args below meth c 7 cy D B 0 0 (MQ below (QR cy D B (some (.int res.1)) res.2 μ ω) args s 0 0 (aB B)) pc9 lcs9 [.int res.1] res.2 μ ω := fun _ _ hd hn => x_zret C hrT hlk hn hd
  generalize (MQ below (QR cy D B (some (.int res.1)) res.2 μ ω) args s 0 0 (aB B)) = Q at hret ⊢
  obtain ⟨R, hR9⟩ : ∃ R : Room, R = ({ frames := 3, cells := 0, slots := 0, locals := 69 } : Room) := ⟨_, rfl⟩
  rw [← hR9] at hret ⊢
  unfold fX5_addToSpare at h
  show X p l e R s m args below meth c 7 cy D B 0 0 Q 0 [(0, .ref (B + oHB)), (1, .int p1), (2, .int p2), (3, .int p3), (4, .int p4), (5, .int p5)] [] σ μ ω
  refine x_aload_n C dX5_addToSpare_0 rfl 0 rfl ?_
  refine x_get C (C1 := "HostelBeds") (T := TX5) (N := 12) (ci := 5) inXg5 _ (c_HB) rfl 3 (by decide) (lw_g_mk tw_290 rfl) rfl dX5_addToSpare_1 ?_
  obtain ⟨hg1, h⟩ := gd_some h
  refine x_aload_n C dX5_addToSpare_4 rfl 0 rfl ?_
  refine x_get C (C1 := "HostelBeds") (T := TX5) (N := 12) (ci := 5) inXg5 _ (c_HB) rfl 2 (by decide) (lw_g_mk tw_289 rfl) rfl dX5_addToSpare_5 ?_
  obtain ⟨hg2, h⟩ := gd_some h
  obtain ⟨q1, hk3, h⟩ := Option.bind_eq_some_iff.mp h
  refine x_callV C (As := [.ref (B + oHo (rP σ 0))]) (rest := []) (lw_g_mk tw_363 rfl) (lw_g_mk tw_364 rfl) (c_Ho hg1) (C1 := "HostelBeds$Hostel") (T := TX1) (N := 12) (ci := 1) rfl (okX1_copy l cy D B ek (rP σ 1) (rP σ 0) σ μ ω hg1 hg2 _ hk3) rfl rfl (by rw [hR9]; decide) (lw_g_mk tw_365 rfl) (lw_g_mk tw_3 rfl) (by decide) rfl (lw_g_mk tw_362 rfl) rfl (Nat.le_of_ble_eq_true rfl) dX5_addToSpare_8 (by rw [hR9]; decide) ?_
  refine x_aload_n C dX5_addToSpare_11 rfl 0 rfl ?_
  refine x_get C (C1 := "HostelBeds") (T := TX5) (N := 12) (ci := 5) inXg5 _ (c_HB) rfl 3 (by decide) (lw_g_mk tw_290 rfl) rfl dX5_addToSpare_12 ?_
  obtain ⟨hg4, h⟩ := gd_some h
  refine x_get C (C1 := "HostelBeds$Hostel") (T := TX1) (N := 12) (ci := 1) inXg1 _ (c_Ho hg4) rfl 4 (by decide) (lw_g_mk tw_200 rfl) rfl dX5_addToSpare_15 ?_
  refine x_istore C [(6, .int (rI q1 22 (rP q1 1) 0)), (0, .ref (B + oHB)), (1, .int p1), (2, .int p2), (3, .int p3), (4, .int p4), (5, .int p5)] dX5_addToSpare_18 (by decide) rfl ?_
  refine x_aload_n C dX5_addToSpare_20 rfl 1 rfl ?_
  refine x_get C (C1 := "HostelBeds") (T := TX5) (N := 12) (ci := 5) inXg5 _ (c_HB) rfl 3 (by decide) (lw_g_mk tw_290 rfl) rfl dX5_addToSpare_21 ?_
  refine x_get C (C1 := "HostelBeds$Hostel") (T := TX1) (N := 12) (ci := 1) inXg1 _ (c_Ho hg4) rfl 3 (by decide) (lw_g_mk tw_197 rfl) rfl dX5_addToSpare_24 ?_
  refine x_iload C dX5_addToSpare_27 0 rfl ?_
  obtain ⟨hg5, h⟩ := gd_some h
  refine x_aldq C _ 6 (C1 := "HostelBeds$Booking") (c_Bks hg4) rfl hg5 rfl dX5_addToSpare_29 ?_
  refine x_iload_n C dX5_addToSpare_30 rfl 2 rfl ?_
  refine x_iload_n C dX5_addToSpare_31 rfl 3 rfl ?_
  refine x_iload_n C dX5_addToSpare_32 rfl 4 rfl ?_
  refine x_iload C dX5_addToSpare_33 5 rfl ?_
  refine x_iload C dX5_addToSpare_35 6 rfl ?_
  refine x_bipush C (v := 100) dX5_addToSpare_37 (by decide) ?_
  obtain ⟨q2, hk6, h⟩ := Option.bind_eq_some_iff.mp h
  refine x_callV C (As := [.int p1, .int p2, .int p3, .int p4, .int p5, .int (100 : Int32)]) (rest := []) (lw_g_mk tw_375 rfl) (lw_g_mk tw_376 rfl) (c_Bk hg4 (inb_lt hg5)) (C1 := "HostelBeds$Booking") (T := TX0) (N := 11) (ci := 0) rfl (okX0_fill l cy D B ek (rP q1 1) ((rI q1 22 (rP q1 1) 0).toNatClampNeg) p1 p2 p3 p4 p5 (100 : Int32) q1 μ ω hg4 (inb_lt hg5) _ hk6) rfl rfl (by rw [hR9]; decide) (lw_g_mk tw_377 rfl) (lw_g_mk tw_5 rfl) (by decide) rfl (lw_g_mk tw_1004 rfl) rfl (Nat.le_of_ble_eq_true rfl) dX5_addToSpare_39 (by rw [hR9]; decide) ?_
  refine x_aload_n C dX5_addToSpare_42 rfl 1 rfl ?_
  refine x_get C (C1 := "HostelBeds") (T := TX5) (N := 12) (ci := 5) inXg5 _ (c_HB) rfl 3 (by decide) (lw_g_mk tw_290 rfl) rfl dX5_addToSpare_43 ?_
  obtain ⟨hg7, h⟩ := gd_some h
  refine x_get C (C1 := "HostelBeds$Hostel") (T := TX1) (N := 12) (ci := 1) inXg1 _ (c_Ho hg7) rfl 3 (by decide) (lw_g_mk tw_197 rfl) rfl dX5_addToSpare_46 ?_
  refine x_iload C dX5_addToSpare_49 0 rfl ?_
  refine x_aldq C _ 6 (C1 := "HostelBeds$Booking") (c_Bks hg7) rfl hg5 rfl dX5_addToSpare_51 ?_
  refine x_iconst C (v := 1) dX5_addToSpare_52 (by decide) ?_
  refine x_put C (C1 := "HostelBeds$Booking") (T := TX0) (N := 11) (ci := 0) inXg0 tyX0 tyX0_ok nmX0 _ (c_Bk hg7 (inb_lt hg5)) rfl 10 (by decide) (lw_g_mk tw_151 rfl) rfl rfl rfl rfl (Nat.le_of_ble_eq_true rfl) dX5_addToSpare_53 (s_Bk_state hg7 (inb_lt hg5)) ?_
  refine x_aload_n C dX5_addToSpare_56 rfl 1 rfl ?_
  refine x_get C (C1 := "HostelBeds") (T := TX5) (N := 12) (ci := 5) inXg5 _ (c_HB) rfl 3 (by decide) (lw_g_mk tw_290 rfl) rfl dX5_addToSpare_57 ?_
  obtain ⟨hg8, h⟩ := gd_some h
  refine x_dup C dX5_addToSpare_60 rfl ?_
  refine x_get C (C1 := "HostelBeds$Hostel") (T := TX1) (N := 12) (ci := 1) inXg1 _ (c_Ho hg8) rfl 4 (by decide) (lw_g_mk tw_200 rfl) rfl dX5_addToSpare_61 ?_
  refine x_iconst C (v := 1) dX5_addToSpare_64 (by decide) ?_
  refine x_iadd C dX5_addToSpare_65 ?_
  refine x_put C (C1 := "HostelBeds$Hostel") (T := TX1) (N := 12) (ci := 1) inXg1 tyX1 tyX1_ok nmX1 _ (c_Ho hg8) rfl 4 (by decide) (lw_g_mk tw_200 rfl) rfl rfl rfl rfl (Nat.le_of_ble_eq_true rfl) dX5_addToSpare_66 (s_Ho_bookingCount hg8) ?_
  refine x_iload C dX5_addToSpare_69 0 rfl ?_
  cases h
  exact hret _ _ dX5_addToSpare_71 rfl
def jX5_checkRange_10 : Option ((Unit ⊕ Nat)) := (some (.inr 2))
def fX5_checkRange (p1 : Int32) (p2 : Int32) (p3 : Int32) : Option ((Unit ⊕ Nat)) := (if p1 < p2 then (jX5_checkRange_10) else (if p1 ≤ p3 then (some (.inl ())) else (jX5_checkRange_10)))
set_option maxHeartbeats 4000000 in
set_option maxRecDepth 100000 in
theorem okX5_checkRange (l : Launch) (hlf : l.stackTraces = false) (cy : Nat → ClassId) (D : va_G) (B : Nat) (ek : EK) (p1 : Int32) (p2 : Int32) (p3 : Int32) (σ μ ω : Mem) (res : (Unit ⊕ Nat)) (h : fX5_checkRange p1 p2 p3 = some res) : CTX l cy D B ek yX5_checkRange cX5_checkRange 3 none ({ frames := 6, cells := 1, slots := 6, locals := 120 } : Room) 1 6 [.int p1, .int p2, .int p3] σ μ ω (Sum.map (fun _ => (none : Option Value)) id res) σ μ ω := by
  refine met_XX (own := "HostelBeds") (by decide) rfl (Nat.le_of_ble_eq_true rfl) ?_
  intro p e s m args below meth c C hrT hlk htab
  have hret : ∀ (x9 : Unit), res = .inl x9 → ∀ (cells9 slots9 pc9 : Nat) (lcs9 : List (Nat × Value)), decode cX5_checkRange pc9 = .ok (.return_, 1) → cells9 ≤ 1 → slots9 ≤ 6 → X p l e ({ frames := 6, cells := 1, slots := 6, locals := 120 } : Room) s m args below meth c 3 cy D B cells9 slots9 (vx_MQ below (QX cy D B (Sum.map (fun _ => (none : Option Value)) id res) σ μ ω) (XCX cy D B (Sum.map (fun _ => (none : Option Value)) id res) σ μ ω) args s 1 6 (aB B)) pc9 lcs9 [] σ μ ω := fun x9 hx9 cells9 slots9 pc9 lcs9 hd h1 h2 => by rw [hx9]; exact x_vretX C hrT hlk hd h1 h2
  have hthr : ∀ (k9 : Nat), res = .inr k9 → ∀ (cells9 slots9 pc9 : Nat) (lcs9 : List (Nat × Value)), (ThrowS "HostelBeds" cX5_checkRange pc9 k9 ∨ ThrowSW "HostelBeds" cX5_checkRange pc9 k9 ∨ ThrowN "HostelBeds" cX5_checkRange pc9 k9) → cells9 + 1 ≤ 1 → slots9 + 6 ≤ 6 → X p l e ({ frames := 6, cells := 1, slots := 6, locals := 120 } : Room) s m args below meth c 3 cy D B cells9 slots9 (vx_MQ below (QX cy D B (Sum.map (fun _ => (none : Option Value)) id res) σ μ ω) (XCX cy D B (Sum.map (fun _ => (none : Option Value)) id res) σ μ ω) args s 1 6 (aB B)) pc9 lcs9 [] σ μ ω := fun k9 hx9 cells9 slots9 pc9 lcs9 ht h1 h2 => by
    rw [hx9]
    rcases ht with ht | ht | ht
    · exact x_throwS C hlf ht htab (Nat.le_of_ble_eq_true rfl) (Nat.le_of_ble_eq_true rfl) h1 h2 hlk h1 h2
    · exact x_throwSW C hlf ht htab (Nat.le_of_ble_eq_true rfl) (Nat.le_of_ble_eq_true rfl) h1 h2 hlk h1 h2
    · exact x_throwN C hlf ht htab (Nat.le_of_ble_eq_true rfl) (Nat.le_of_ble_eq_true rfl) h1 h2 hlk h1 h2
  have hout : ∀ (k9 : Nat), res = .inr k9 → ∀ (cells9 slots9 pc9 : Nat) (lcs9 : List (Nat × Value)) (st9 : List Value), cells9 ≤ 1 → slots9 ≤ 6 → XO p l e ({ frames := 6, cells := 1, slots := 6, locals := 120 } : Room) s m args below meth c 3 cy D B cells9 slots9 (vx_MQ below (QX cy D B (Sum.map (fun _ => (none : Option Value)) id res) σ μ ω) (XCX cy D B (Sum.map (fun _ => (none : Option Value)) id res) σ μ ω) args s 1 6 (aB B)) pc9 lcs9 st9 σ μ ω k9 := fun k9 hx9 cells9 slots9 pc9 lcs9 st9 h1 h2 => by rw [hx9]; exact x_out C htab hlk h1 h2
  generalize (vx_MQ below (QX cy D B (Sum.map (fun _ => (none : Option Value)) id res) σ μ ω) (XCX cy D B (Sum.map (fun _ => (none : Option Value)) id res) σ μ ω) args s 1 6 (aB B)) = Q at hret hthr hout ⊢
  obtain ⟨R, hR9⟩ : ∃ R : Room, R = ({ frames := 6, cells := 1, slots := 6, locals := 120 } : Room) := ⟨_, rfl⟩
  rw [← hR9] at hret hthr hout ⊢
  unfold fX5_checkRange at h
  show X p l e R s m args below meth c 3 cy D B 0 0 Q 0 [(0, .int p1), (1, .int p2), (2, .int p3)] [] σ μ ω
  refine x_iload_n C dX5_checkRange_0 rfl 0 rfl ?_
  refine x_iload_n C dX5_checkRange_1 rfl 1 rfl ?_
  have hJ1 : ∀ (r9 : (Unit ⊕ Nat)), jX5_checkRange_10 = some r9 → (∀ (x9 : Unit), r9 = .inl x9 → ∀ (cells9 slots9 pc9 : Nat) (lcs9 : List (Nat × Value)), decode cX5_checkRange pc9 = .ok (.return_, 1) → cells9 ≤ 1 → slots9 ≤ 6 → X p l e R s m args below meth c 3 cy D B cells9 slots9 Q pc9 lcs9 [] σ μ ω) → (∀ (k9 : Nat), r9 = .inr k9 → ∀ (cells9 slots9 pc9 : Nat) (lcs9 : List (Nat × Value)), (ThrowS "HostelBeds" cX5_checkRange pc9 k9 ∨ ThrowSW "HostelBeds" cX5_checkRange pc9 k9 ∨ ThrowN "HostelBeds" cX5_checkRange pc9 k9) → cells9 + 1 ≤ 1 → slots9 + 6 ≤ 6 → X p l e R s m args below meth c 3 cy D B cells9 slots9 Q pc9 lcs9 [] σ μ ω) → (∀ (k9 : Nat), r9 = .inr k9 → ∀ (cells9 slots9 pc9 : Nat) (lcs9 : List (Nat × Value)) (st9 : List Value), cells9 ≤ 1 → slots9 ≤ 6 → XO p l e R s m args below meth c 3 cy D B cells9 slots9 Q pc9 lcs9 st9 σ μ ω k9) → X p l e R s m args below meth c 3 cy D B 0 0 Q 10 [] [] σ μ ω := by
    intro res9 h hret hthr hout
    unfold jX5_checkRange_10 at h
    cases h
    exact hthr _ rfl _ _ _ _ (Or.inr (Or.inl ⟨66, 358, 70, "a parameter is out of range", dX5_checkRange_10, dX5_checkRange_13, dX5_checkRange_14, dX5_checkRange_17, dX5_checkRange_20, lw_g_mk tw_557 rfl, lw_g_mk tw_12 rfl, (by decide +kernel), (by decide +kernel), (by decide +kernel), hat_2, hgood_2⟩)) (by decide) (by decide)
  refine x_icmp_lt C (tgt := 10) dX5_checkRange_2 (by decide) (fun hc2 => ?_) (fun hc2 => ?_)
  · rw [if_pos hc2] at h
    refine x_sub [] rfl ?_
    exact hJ1 _ h hret hthr hout
  · rw [if_neg hc2] at h
    refine x_iload_n C dX5_checkRange_5 rfl 0 rfl ?_
    refine x_iload_n C dX5_checkRange_6 rfl 2 rfl ?_
    refine x_icmp_le C (tgt := 21) dX5_checkRange_7 (by decide) (fun hc3 => ?_) (fun hc3 => ?_)
    · rw [if_pos hc3] at h
      cases h
      exact hret _ rfl _ _ _ _ dX5_checkRange_21 (by decide) (by decide)
    · rw [if_neg hc3] at h
      refine x_sub [] rfl ?_
      exact hJ1 _ h hret hthr hout
def jX5_checkGroup_33 (p4 : Int32) (p3 : Int32) (p5 : Int32) (t10 : Int32) : Option ((Unit ⊕ Nat)) := ((fX5_checkRange p4 t10 ((12 : Int32) - p3)).bind fun q11 => Sum.elim (fun x12 => ((fX5_checkRange p5 (0 : Int32) (99 : Int32)).bind fun q14 => Sum.elim (fun x15 => (some (.inl ()))) (fun e16 => (some (.inr e16))) q14)) (fun e13 => (some (.inr e13))) q11)
def fX5_checkGroup (p1 : Int32) (p2 : Int32) (p3 : Int32) (p4 : Int32) (p5 : Int32) : Option ((Unit ⊕ Nat)) := ((fX5_checkRange p1 (0 : Int32) (29 : Int32)).bind fun q1 => Sum.elim (fun x2 => ((fX5_checkRange p2 (1 : Int32) ((30 : Int32) - p1)).bind fun q4 => Sum.elim (fun x5 => ((fX5_checkRange p3 (0 : Int32) (12 : Int32)).bind fun q7 => Sum.elim (fun x8 => (if ¬ p3 = 0 then (jX5_checkGroup_33 p4 p3 p5 (0 : Int32)) else (jX5_checkGroup_33 p4 p3 p5 (1 : Int32)))) (fun e9 => (some (.inr e9))) q7)) (fun e6 => (some (.inr e6))) q4)) (fun e3 => (some (.inr e3))) q1)
set_option maxHeartbeats 4000000 in
set_option maxRecDepth 100000 in
theorem okX5_checkGroup (l : Launch) (hlf : l.stackTraces = false) (cy : Nat → ClassId) (D : va_G) (B : Nat) (ek : EK) (p1 : Int32) (p2 : Int32) (p3 : Int32) (p4 : Int32) (p5 : Int32) (σ μ ω : Mem) (res : (Unit ⊕ Nat)) (h : fX5_checkGroup p1 p2 p3 p4 p5 = some res) : CTX l cy D B ek yX5_checkGroup cX5_checkGroup 5 none ({ frames := 7, cells := 5, slots := 30, locals := 142 } : Room) 5 30 [.int p1, .int p2, .int p3, .int p4, .int p5] σ μ ω (Sum.map (fun _ => (none : Option Value)) id res) σ μ ω := by
  refine met_XX (own := "HostelBeds") (by decide) rfl (Nat.le_of_ble_eq_true rfl) ?_
  intro p e s m args below meth c C hrT hlk htab
  have hret : ∀ (x9 : Unit), res = .inl x9 → ∀ (cells9 slots9 pc9 : Nat) (lcs9 : List (Nat × Value)), decode cX5_checkGroup pc9 = .ok (.return_, 1) → cells9 ≤ 5 → slots9 ≤ 30 → X p l e ({ frames := 7, cells := 5, slots := 30, locals := 142 } : Room) s m args below meth c 5 cy D B cells9 slots9 (vx_MQ below (QX cy D B (Sum.map (fun _ => (none : Option Value)) id res) σ μ ω) (XCX cy D B (Sum.map (fun _ => (none : Option Value)) id res) σ μ ω) args s 5 30 (aB B)) pc9 lcs9 [] σ μ ω := fun x9 hx9 cells9 slots9 pc9 lcs9 hd h1 h2 => by rw [hx9]; exact x_vretX C hrT hlk hd h1 h2
  have hout : ∀ (k9 : Nat), res = .inr k9 → ∀ (cells9 slots9 pc9 : Nat) (lcs9 : List (Nat × Value)) (st9 : List Value), cells9 ≤ 5 → slots9 ≤ 30 → XO p l e ({ frames := 7, cells := 5, slots := 30, locals := 142 } : Room) s m args below meth c 5 cy D B cells9 slots9 (vx_MQ below (QX cy D B (Sum.map (fun _ => (none : Option Value)) id res) σ μ ω) (XCX cy D B (Sum.map (fun _ => (none : Option Value)) id res) σ μ ω) args s 5 30 (aB B)) pc9 lcs9 st9 σ μ ω k9 := fun k9 hx9 cells9 slots9 pc9 lcs9 st9 h1 h2 => by rw [hx9]; exact x_out C htab hlk h1 h2
  have hthr : True := trivial
  generalize (vx_MQ below (QX cy D B (Sum.map (fun _ => (none : Option Value)) id res) σ μ ω) (XCX cy D B (Sum.map (fun _ => (none : Option Value)) id res) σ μ ω) args s 5 30 (aB B)) = Q at hret hthr hout ⊢
  obtain ⟨R, hR9⟩ : ∃ R : Room, R = ({ frames := 7, cells := 5, slots := 30, locals := 142 } : Room) := ⟨_, rfl⟩
  rw [← hR9] at hret hout ⊢
  unfold fX5_checkGroup at h
  show X p l e R s m args below meth c 5 cy D B 0 0 Q 0 [(0, .int p1), (1, .int p2), (2, .int p3), (3, .int p4), (4, .int p5)] [] σ μ ω
  refine x_iload_n C dX5_checkGroup_0 rfl 0 rfl ?_
  refine x_iconst C (v := 0) dX5_checkGroup_1 (by decide) ?_
  refine x_bipush C (v := 29) dX5_checkGroup_2 (by decide) ?_
  obtain ⟨q1, hk1, h⟩ := Option.bind_eq_some_iff.mp h
  refine x_callSX C (As := [.int p1, .int (0 : Int32), .int (29 : Int32)]) (rest := []) (cells2 := 1) (slots2 := 6) (lw_g_mk tw_997 rfl) (okX5_checkRange l hlf cy D B ek p1 (0 : Int32) (29 : Int32) σ μ ω _ hk1) rfl rfl (by rw [hR9]; decide) (lw_g_mk tw_998 rfl) (lw_g_mk tw_1 rfl) (by decide) rfl (lw_g_mk tw_996 rfl) rfl (Nat.le_of_ble_eq_true rfl) dX5_checkGroup_4 (by rw [hR9]; decide) rfl rfl (fun v2 hv3 => ?_) (fun k4 hv5 => ?_)
  · rcases q1 with x2 | e3
    · rw [Sum.elim_inl] at h
      have hv3 : (Sum.inl (none) : Option Value ⊕ Nat) = .inl v2 := hv3
      cases hv3
      refine x_iload_n C dX5_checkGroup_7 rfl 1 rfl ?_
      refine x_iconst C (v := 1) dX5_checkGroup_8 (by decide) ?_
      refine x_bipush C (v := 30) dX5_checkGroup_9 (by decide) ?_
      refine x_iload_n C dX5_checkGroup_11 rfl 0 rfl ?_
      refine x_isub C dX5_checkGroup_12 ?_
      obtain ⟨q4, hk7, h⟩ := Option.bind_eq_some_iff.mp h
      refine x_callSX C (As := [.int p2, .int (1 : Int32), .int ((30 : Int32) - p1)]) (rest := []) (cells2 := 2) (slots2 := 12) (lw_g_mk tw_997 rfl) (okX5_checkRange l hlf cy D B ek p2 (1 : Int32) ((30 : Int32) - p1) σ μ ω _ hk7) rfl rfl (by rw [hR9]; decide) (lw_g_mk tw_998 rfl) (lw_g_mk tw_1 rfl) (by decide) rfl (lw_g_mk tw_996 rfl) rfl (Nat.le_of_ble_eq_true rfl) dX5_checkGroup_13 (by rw [hR9]; decide) rfl rfl (fun v8 hv9 => ?_) (fun k10 hv11 => ?_)
      · rcases q4 with x5 | e6
        · rw [Sum.elim_inl] at h
          have hv9 : (Sum.inl (none) : Option Value ⊕ Nat) = .inl v8 := hv9
          cases hv9
          refine x_iload_n C dX5_checkGroup_16 rfl 2 rfl ?_
          refine x_iconst C (v := 0) dX5_checkGroup_17 (by decide) ?_
          refine x_bipush C (v := 12) dX5_checkGroup_18 (by decide) ?_
          obtain ⟨q7, hk13, h⟩ := Option.bind_eq_some_iff.mp h
          refine x_callSX C (As := [.int p3, .int (0 : Int32), .int (12 : Int32)]) (rest := []) (cells2 := 3) (slots2 := 18) (lw_g_mk tw_997 rfl) (okX5_checkRange l hlf cy D B ek p3 (0 : Int32) (12 : Int32) σ μ ω _ hk13) rfl rfl (by rw [hR9]; decide) (lw_g_mk tw_998 rfl) (lw_g_mk tw_1 rfl) (by decide) rfl (lw_g_mk tw_996 rfl) rfl (Nat.le_of_ble_eq_true rfl) dX5_checkGroup_20 (by rw [hR9]; decide) rfl rfl (fun v14 hv15 => ?_) (fun k16 hv17 => ?_)
          · rcases q7 with x8 | e9
            · rw [Sum.elim_inl] at h
              have hv15 : (Sum.inl (none) : Option Value ⊕ Nat) = .inl v14 := hv15
              cases hv15
              refine x_iload_n C dX5_checkGroup_23 rfl 3 rfl ?_
              refine x_iload_n C dX5_checkGroup_24 rfl 2 rfl ?_
              have hJ33 : ∀ (t10 : Int32) (r9 : (Unit ⊕ Nat)), jX5_checkGroup_33 p4 p3 p5 t10 = some r9 → (∀ (x9 : Unit), r9 = .inl x9 → ∀ (cells9 slots9 pc9 : Nat) (lcs9 : List (Nat × Value)), decode cX5_checkGroup pc9 = .ok (.return_, 1) → cells9 ≤ 5 → slots9 ≤ 30 → X p l e R s m args below meth c 5 cy D B cells9 slots9 Q pc9 lcs9 [] σ μ ω) → (True) → (∀ (k9 : Nat), r9 = .inr k9 → ∀ (cells9 slots9 pc9 : Nat) (lcs9 : List (Nat × Value)) (st9 : List Value), cells9 ≤ 5 → slots9 ≤ 30 → XO p l e R s m args below meth c 5 cy D B cells9 slots9 Q pc9 lcs9 st9 σ μ ω k9) → X p l e R s m args below meth c 5 cy D B 3 18 Q 33 [(2, .int p3), (4, .int p5)] [.int t10, .int p4] σ μ ω := by
                intro t10 res9 h hret hthr hout
                unfold jX5_checkGroup_33 at h
                refine x_bipush C (v := 12) dX5_checkGroup_33 (by decide) ?_
                refine x_iload_n C dX5_checkGroup_35 rfl 0 rfl ?_
                refine x_isub C dX5_checkGroup_36 ?_
                obtain ⟨q11, hk19, h⟩ := Option.bind_eq_some_iff.mp h
                refine x_callSX C (As := [.int p4, .int t10, .int ((12 : Int32) - p3)]) (rest := []) (cells2 := 4) (slots2 := 24) (lw_g_mk tw_997 rfl) (okX5_checkRange l hlf cy D B ek p4 t10 ((12 : Int32) - p3) σ μ ω _ hk19) rfl rfl (by rw [hR9]; decide) (lw_g_mk tw_998 rfl) (lw_g_mk tw_1 rfl) (by decide) rfl (lw_g_mk tw_996 rfl) rfl (Nat.le_of_ble_eq_true rfl) dX5_checkGroup_37 (by rw [hR9]; decide) rfl rfl (fun v20 hv21 => ?_) (fun k22 hv23 => ?_)
                · rcases q11 with x12 | e13
                  · rw [Sum.elim_inl] at h
                    have hv21 : (Sum.inl (none) : Option Value ⊕ Nat) = .inl v20 := hv21
                    cases hv21
                    refine x_iload C dX5_checkGroup_40 1 rfl ?_
                    refine x_iconst C (v := 0) dX5_checkGroup_42 (by decide) ?_
                    refine x_bipush C (v := 99) dX5_checkGroup_43 (by decide) ?_
                    obtain ⟨q14, hk25, h⟩ := Option.bind_eq_some_iff.mp h
                    refine x_callSX C (As := [.int p5, .int (0 : Int32), .int (99 : Int32)]) (rest := []) (cells2 := 5) (slots2 := 30) (lw_g_mk tw_997 rfl) (okX5_checkRange l hlf cy D B ek p5 (0 : Int32) (99 : Int32) σ μ ω _ hk25) rfl rfl (by rw [hR9]; decide) (lw_g_mk tw_998 rfl) (lw_g_mk tw_1 rfl) (by decide) rfl (lw_g_mk tw_996 rfl) rfl (Nat.le_of_ble_eq_true rfl) dX5_checkGroup_45 (by rw [hR9]; decide) rfl rfl (fun v26 hv27 => ?_) (fun k28 hv29 => ?_)
                    · rcases q14 with x15 | e16
                      · rw [Sum.elim_inl] at h
                        have hv27 : (Sum.inl (none) : Option Value ⊕ Nat) = .inl v26 := hv27
                        cases hv27
                        cases h
                        exact hret _ rfl _ _ _ _ dX5_checkGroup_48 (by decide) (by decide)
                      · cases hv27
                    · rcases q14 with x15 | e16
                      · cases hv29
                      · rw [Sum.elim_inr] at h
                        have hv29 : (Sum.inr e16 : Option Value ⊕ Nat) = .inr k28 := hv29
                        cases hv29
                        cases h
                        exact hout _ rfl _ _ _ _ _ (by decide) (by decide)
                  · cases hv21
                · rcases q11 with x12 | e13
                  · cases hv23
                  · rw [Sum.elim_inr] at h
                    have hv23 : (Sum.inr e13 : Option Value ⊕ Nat) = .inr k22 := hv23
                    cases hv23
                    cases h
                    exact hout _ rfl _ _ _ _ _ (by decide) (by decide)
              refine x_if_ne C (tgt := 32) dX5_checkGroup_25 (by decide) (fun hc34 => ?_) (fun hc34 => ?_)
              · rw [if_pos hc34] at h
                refine x_iconst C (v := 0) dX5_checkGroup_32 (by decide) ?_
                refine x_sub [2, 4] rfl ?_
                exact hJ33 (0 : Int32) _ h hret hthr hout
              · rw [if_neg hc34] at h
                refine x_iconst C (v := 1) dX5_checkGroup_28 (by decide) ?_
                refine x_goto C (tgt := 33) dX5_checkGroup_29 (by decide) ?_
                refine x_sub [2, 4] rfl ?_
                exact hJ33 (1 : Int32) _ h hret hthr hout
            · cases hv15
          · rcases q7 with x8 | e9
            · cases hv17
            · rw [Sum.elim_inr] at h
              have hv17 : (Sum.inr e9 : Option Value ⊕ Nat) = .inr k16 := hv17
              cases hv17
              cases h
              exact hout _ rfl _ _ _ _ _ (by decide) (by decide)
        · cases hv9
      · rcases q4 with x5 | e6
        · cases hv11
        · rw [Sum.elim_inr] at h
          have hv11 : (Sum.inr e6 : Option Value ⊕ Nat) = .inr k10 := hv11
          cases hv11
          cases h
          exact hout _ rfl _ _ _ _ _ (by decide) (by decide)
    · cases hv3
  · rcases q1 with x2 | e3
    · cases hv5
    · rw [Sum.elim_inr] at h
      have hv5 : (Sum.inr e3 : Option Value ⊕ Nat) = .inr k4 := hv5
      cases hv5
      cases h
      exact hout _ rfl _ _ _ _ _ (by decide) (by decide)
def fX5_wouldBe (p1 : Int32) (p2 : Int32) (p3 : Int32) (p4 : Int32) (p5 : Int32) (σ : Mem) : Option ((Int32 ⊕ Nat) × Mem) := ((fX5_checkGroup p1 p2 p3 p4 p5).bind fun q1 => Sum.elim (fun x2 => ((fX5_addToSpare p1 p2 p3 p4 p5 σ).bind fun q4 => (gd (rP q4.2 1 < 12) ((fX3_make 1 (rP q4.2 1) q4.2).bind fun q5 => (gd (inb q4.1 17) (some (.inl (rI q5 52 1 q4.1.toNatClampNeg), q5))))))) (fun e3 => (some (.inr e3, σ))) q1)
set_option maxHeartbeats 4000000 in
set_option maxRecDepth 100000 in
theorem okX5_wouldBe (l : Launch) (hlf : l.stackTraces = false) (cy : Nat → ClassId) (D : va_G) (B : Nat) (ek : EK) (p1 : Int32) (p2 : Int32) (p3 : Int32) (p4 : Int32) (p5 : Int32) (σ μ ω : Mem) (res : (Int32 ⊕ Nat) × Mem) (h : fX5_wouldBe p1 p2 p3 p4 p5 σ = some res) : CTX l cy D B ek yX5_wouldBe cX5_wouldBe 7 (some .int) ({ frames := 8, cells := 5, slots := 30, locals := 166 } : Room) 5 30 [.ref (B + oHB), .int p1, .int p2, .int p3, .int p4, .int p5] σ μ ω (Sum.map (fun x => some (Value.int x)) id res.1) res.2 μ ω := by
  refine met_XX (own := "HostelBeds") (by decide) rfl (Nat.le_of_ble_eq_true rfl) ?_
  intro p e s m args below meth c C hrT hlk htab
  have hret : ∀ (x9 : Int32), res.1 = .inl x9 → ∀ (cells9 slots9 pc9 : Nat) (lcs9 : List (Nat × Value)), decode cX5_wouldBe pc9 = .ok (.ireturn, 1) → narrow .int (.int x9) = .int x9 → cells9 ≤ 5 → slots9 ≤ 30 → X p l e ({ frames := 8, cells := 5, slots := 30, locals := 166 } : Room) s m args below meth c 7 cy D B cells9 slots9 (vx_MQ below (QX cy D B (Sum.map (fun x => some (Value.int x)) id res.1) res.2 μ ω) (XCX cy D B (Sum.map (fun x => some (Value.int x)) id res.1) res.2 μ ω) args s 5 30 (aB B)) pc9 lcs9 [.int x9] res.2 μ ω := fun x9 hx9 cells9 slots9 pc9 lcs9 hd hn h1 h2 => by rw [hx9]; exact x_zretX C hrT hlk hn hd h1 h2
  have hout : ∀ (k9 : Nat), res.1 = .inr k9 → ∀ (cells9 slots9 pc9 : Nat) (lcs9 : List (Nat × Value)) (st9 : List Value), cells9 ≤ 5 → slots9 ≤ 30 → XO p l e ({ frames := 8, cells := 5, slots := 30, locals := 166 } : Room) s m args below meth c 7 cy D B cells9 slots9 (vx_MQ below (QX cy D B (Sum.map (fun x => some (Value.int x)) id res.1) res.2 μ ω) (XCX cy D B (Sum.map (fun x => some (Value.int x)) id res.1) res.2 μ ω) args s 5 30 (aB B)) pc9 lcs9 st9 res.2 μ ω k9 := fun k9 hx9 cells9 slots9 pc9 lcs9 st9 h1 h2 => by rw [hx9]; exact x_out C htab hlk h1 h2
  have hthr : True := trivial
  generalize (vx_MQ below (QX cy D B (Sum.map (fun x => some (Value.int x)) id res.1) res.2 μ ω) (XCX cy D B (Sum.map (fun x => some (Value.int x)) id res.1) res.2 μ ω) args s 5 30 (aB B)) = Q at hret hthr hout ⊢
  obtain ⟨R, hR9⟩ : ∃ R : Room, R = ({ frames := 8, cells := 5, slots := 30, locals := 166 } : Room) := ⟨_, rfl⟩
  rw [← hR9] at hret hout ⊢
  unfold fX5_wouldBe at h
  show X p l e R s m args below meth c 7 cy D B 0 0 Q 0 [(0, .ref (B + oHB)), (1, .int p1), (2, .int p2), (3, .int p3), (4, .int p4), (5, .int p5)] [] σ μ ω
  refine x_iload_n C dX5_wouldBe_0 rfl 1 rfl ?_
  refine x_iload_n C dX5_wouldBe_1 rfl 2 rfl ?_
  refine x_iload_n C dX5_wouldBe_2 rfl 3 rfl ?_
  refine x_iload C dX5_wouldBe_3 4 rfl ?_
  refine x_iload C dX5_wouldBe_5 5 rfl ?_
  obtain ⟨q1, hk1, h⟩ := Option.bind_eq_some_iff.mp h
  refine x_callSX C (As := [.int p1, .int p2, .int p3, .int p4, .int p5]) (rest := []) (cells2 := 5) (slots2 := 30) (lw_g_mk tw_994 rfl) (okX5_checkGroup l hlf cy D B ek p1 p2 p3 p4 p5 σ μ ω _ hk1) rfl rfl (by rw [hR9]; decide) (lw_g_mk tw_995 rfl) (lw_g_mk tw_1 rfl) (by decide) rfl (lw_g_mk tw_993 rfl) rfl (Nat.le_of_ble_eq_true rfl) dX5_wouldBe_7 (by rw [hR9]; decide) rfl rfl (fun v2 hv3 => ?_) (fun k4 hv5 => ?_)
  · rcases q1 with x2 | e3
    · rw [Sum.elim_inl] at h
      have hv3 : (Sum.inl (none) : Option Value ⊕ Nat) = .inl v2 := hv3
      cases hv3
      refine x_aload_n C dX5_wouldBe_10 rfl 0 rfl ?_
      refine x_iload_n C dX5_wouldBe_11 rfl 1 rfl ?_
      refine x_iload_n C dX5_wouldBe_12 rfl 2 rfl ?_
      refine x_iload_n C dX5_wouldBe_13 rfl 3 rfl ?_
      refine x_iload C dX5_wouldBe_14 4 rfl ?_
      refine x_iload C dX5_wouldBe_16 5 rfl ?_
      obtain ⟨q4, hk7, h⟩ := Option.bind_eq_some_iff.mp h
      refine x_callV C (As := [.int p1, .int p2, .int p3, .int p4, .int p5]) (rest := []) (lw_g_mk tw_1002 rfl) (lw_g_mk tsel_10 rfl) (c_HB) (C1 := "HostelBeds") (T := TX5) (N := 12) (ci := 5) rfl (okX5_addToSpare l cy D B ek p1 p2 p3 p4 p5 σ μ ω _ hk7) rfl rfl (by rw [hR9]; decide) (lw_g_mk tw_1003 rfl) (lw_g_mk tw_1 rfl) (by decide) rfl (lw_g_mk tw_1000 rfl) rfl (Nat.le_of_ble_eq_true rfl) dX5_wouldBe_18 (by rw [hR9]; decide) ?_
      refine x_istore C [(6, .int q4.1), (0, .ref (B + oHB)), (1, .int p1), (2, .int p2), (3, .int p3), (4, .int p4), (5, .int p5)] dX5_wouldBe_21 (by decide) rfl ?_
      refine x_aload_n C dX5_wouldBe_23 rfl 1 rfl ?_
      refine x_get C (C1 := "HostelBeds") (T := TX5) (N := 12) (ci := 5) inXg5 _ (c_HB) rfl 5 (by decide) (lw_g_mk tw_292 rfl) rfl dX5_wouldBe_24 ?_
      refine x_aload_n C dX5_wouldBe_27 rfl 1 rfl ?_
      refine x_get C (C1 := "HostelBeds") (T := TX5) (N := 12) (ci := 5) inXg5 _ (c_HB) rfl 3 (by decide) (lw_g_mk tw_290 rfl) rfl dX5_wouldBe_28 ?_
      obtain ⟨hg8, h⟩ := gd_some h
      obtain ⟨q5, hk9, h⟩ := Option.bind_eq_some_iff.mp h
      refine x_callV C (As := [.ref (B + oHo (rP q4.2 1))]) (rest := []) (lw_g_mk tw_413 rfl) (lw_g_mk tw_414 rfl) (c_Pl (by decide)) (C1 := "HostelBeds$Plan") (T := TX3) (N := 8) (ci := 3) rfl (okX3_make l cy D B ek 1 (rP q4.2 1) q4.2 μ ω (by decide) hg8 _ hk9) rfl rfl (by rw [hR9]; decide) (lw_g_mk tw_415 rfl) (lw_g_mk tw_6 rfl) (by decide) rfl (lw_g_mk tw_412 rfl) rfl (Nat.le_of_ble_eq_true rfl) dX5_wouldBe_31 (by rw [hR9]; decide) ?_
      refine x_aload_n C dX5_wouldBe_34 rfl 1 rfl ?_
      refine x_get C (C1 := "HostelBeds") (T := TX5) (N := 12) (ci := 5) inXg5 _ (c_HB) rfl 5 (by decide) (lw_g_mk tw_292 rfl) rfl dX5_wouldBe_35 ?_
      refine x_get C (C1 := "HostelBeds$Plan") (T := TX3) (N := 8) (ci := 3) inXg3 _ (c_Pl (by decide)) rfl 2 (by decide) (lw_g_mk tw_259 rfl) rfl dX5_wouldBe_38 ?_
      refine x_iload C dX5_wouldBe_41 0 rfl ?_
      obtain ⟨hg10, h⟩ := gd_some h
      refine x_iald C _ (c_Out (by decide)) hg10 dX5_wouldBe_43 ?_
      cases h
      exact hret _ rfl _ _ _ _ dX5_wouldBe_44 rfl (by decide) (by decide)
    · cases hv3
  · rcases q1 with x2 | e3
    · cases hv5
    · rw [Sum.elim_inr] at h
      have hv5 : (Sum.inr e3 : Option Value ⊕ Nat) = .inr k4 := hv5
      cases hv5
      cases h
      exact hout _ rfl _ _ _ _ _ (by decide) (by decide)
def fX5_netOfSpare (σ : Mem) : Option (Int32 × Mem) := (gd (rP σ 1 < 12) ((fX3_make 1 (rP σ 1) σ).bind fun q1 => (some ((rI q1 55 1 0) - (rI q1 56 1 0), q1))))
set_option maxHeartbeats 4000000 in
set_option maxRecDepth 100000 in
theorem okX5_netOfSpare (l : Launch) (cy : Nat → ClassId) (D : va_G) (B : Nat) (ek : EK) (σ μ ω : Mem) (res : Int32 × Mem) (h : fX5_netOfSpare σ = some res) : CT l cy D B ek yX5_netOfSpare cX5_netOfSpare 1 (some .int) ({ frames := 5, cells := 0, slots := 0, locals := 122 } : Room) [.ref (B + oHB)] σ μ ω (some (.int res.1)) res.2 μ ω := by
  refine met_X (own := "HostelBeds") (by decide) rfl (Nat.le_of_ble_eq_true rfl) ?_
  intro p e s m args below meth c C hrT hlk
  have hret : ∀ (pc9 : Nat) (lcs9 : List (Nat × Value)), decode cX5_netOfSpare pc9 = .ok (.ireturn, 1) → narrow .int (.int res.1) = .int res.1 → X p l e ({ frames := 5, cells := 0, slots := 0, locals := 122 } : Room) s m args below meth c 1 cy D B 0 0 (MQ below (QR cy D B (some (.int res.1)) res.2 μ ω) args s 0 0 (aB B)) pc9 lcs9 [.int res.1] res.2 μ ω := fun _ _ hd hn => x_zret C hrT hlk hn hd
  generalize (MQ below (QR cy D B (some (.int res.1)) res.2 μ ω) args s 0 0 (aB B)) = Q at hret ⊢
  obtain ⟨R, hR9⟩ : ∃ R : Room, R = ({ frames := 5, cells := 0, slots := 0, locals := 122 } : Room) := ⟨_, rfl⟩
  rw [← hR9] at hret ⊢
  unfold fX5_netOfSpare at h
  show X p l e R s m args below meth c 1 cy D B 0 0 Q 0 [(0, .ref (B + oHB))] [] σ μ ω
  refine x_aload_n C dX5_netOfSpare_0 rfl 0 rfl ?_
  refine x_get C (C1 := "HostelBeds") (T := TX5) (N := 12) (ci := 5) inXg5 _ (c_HB) rfl 5 (by decide) (lw_g_mk tw_292 rfl) rfl dX5_netOfSpare_1 ?_
  refine x_aload_n C dX5_netOfSpare_4 rfl 0 rfl ?_
  refine x_get C (C1 := "HostelBeds") (T := TX5) (N := 12) (ci := 5) inXg5 _ (c_HB) rfl 3 (by decide) (lw_g_mk tw_290 rfl) rfl dX5_netOfSpare_5 ?_
  obtain ⟨hg1, h⟩ := gd_some h
  obtain ⟨q1, hk2, h⟩ := Option.bind_eq_some_iff.mp h
  refine x_callV C (As := [.ref (B + oHo (rP σ 1))]) (rest := []) (lw_g_mk tw_413 rfl) (lw_g_mk tw_414 rfl) (c_Pl (by decide)) (C1 := "HostelBeds$Plan") (T := TX3) (N := 8) (ci := 3) rfl (okX3_make l cy D B ek 1 (rP σ 1) σ μ ω (by decide) hg1 _ hk2) rfl rfl (by rw [hR9]; decide) (lw_g_mk tw_415 rfl) (lw_g_mk tw_6 rfl) (by decide) rfl (lw_g_mk tw_412 rfl) rfl (Nat.le_of_ble_eq_true rfl) dX5_netOfSpare_8 (by rw [hR9]; decide) ?_
  refine x_aload_n C dX5_netOfSpare_11 rfl 0 rfl ?_
  refine x_get C (C1 := "HostelBeds") (T := TX5) (N := 12) (ci := 5) inXg5 _ (c_HB) rfl 5 (by decide) (lw_g_mk tw_292 rfl) rfl dX5_netOfSpare_12 ?_
  refine x_get C (C1 := "HostelBeds$Plan") (T := TX3) (N := 8) (ci := 3) inXg3 _ (c_Pl (by decide)) rfl 5 (by decide) (lw_g_mk tw_265 rfl) rfl dX5_netOfSpare_15 ?_
  refine x_aload_n C dX5_netOfSpare_18 rfl 0 rfl ?_
  refine x_get C (C1 := "HostelBeds") (T := TX5) (N := 12) (ci := 5) inXg5 _ (c_HB) rfl 5 (by decide) (lw_g_mk tw_292 rfl) rfl dX5_netOfSpare_19 ?_
  refine x_get C (C1 := "HostelBeds$Plan") (T := TX3) (N := 8) (ci := 3) inXg3 _ (c_Pl (by decide)) rfl 6 (by decide) (lw_g_mk tw_267 rfl) rfl dX5_netOfSpare_22 ?_
  refine x_isub C dX5_netOfSpare_25 ?_
  cases h
  exact hret _ _ dX5_netOfSpare_26 rfl
def jX5_bestStay_84 (a42 : Int32 × Int32 × Int32 × Mem) (q5 : Int32 × Mem) (x6 : Int32) (x7 : Int32) : Option ((Int32 × Int32 × Int32 × Mem) ⊕ (Int32 × Mem)) := (some (.inl (x6, x7, a42.2.2.1 + (1 : Int32), q5.2)))
def jX5_bestStay_76 (a42 : Int32 × Int32 × Int32 × Mem) (q5 : Int32 × Mem) : Option ((Int32 × Int32 × Int32 × Mem) ⊕ (Int32 × Mem)) := (jX5_bestStay_84 a42 q5 a42.2.2.1 q5.1)
def stX5_bestStay_42 (p1 : Int32) (q4 : Int32 × Mem) (a42 : Int32 × Int32 × Int32 × Mem) : Option ((Int32 × Int32 × Int32 × Mem) ⊕ (Int32 × Mem)) := (if ((30 : Int32) - p1) < a42.2.2.1 then (some (.inr (a42.1, a42.2.2.2))) else ((fX5_netOfSpare (wI a42.2.2.2 41 (rP q4.2 1) q4.1.toNatClampNeg a42.2.2.1)).bind fun q5 => (if a42.1 = 0 then (jX5_bestStay_76 a42 q5) else (if q5.1 ≤ a42.2.1 then (jX5_bestStay_84 a42 q5 a42.1 a42.2.1) else (jX5_bestStay_76 a42 q5)))))
def fX5_bestStay (p1 : Int32) (p2 : Int32) (p3 : Int32) (p4 : Int32) (σ : Mem) : Option ((Int32 ⊕ Nat) × Mem) := ((fX5_checkGroup p1 (1 : Int32) p2 p3 p4).bind fun q1 => Sum.elim (fun x2 => ((fX5_addToSpare p1 (1 : Int32) p2 p3 p4 σ).bind fun q4 => (gd (rP q4.2 1 < 12) (gd (inb q4.1 17) ((loop (stX5_bestStay_42 p1 q4) 5000 ((0 : Int32), (0 : Int32), (1 : Int32), q4.2)).bind fun b42 => (some (.inl b42.1, b42.2))))))) (fun e3 => (some (.inr e3, σ))) q1)
set_option maxHeartbeats 4000000 in
set_option maxRecDepth 100000 in
theorem okX5_bestStay (l : Launch) (hlf : l.stackTraces = false) (cy : Nat → ClassId) (D : va_G) (B : Nat) (ek : EK) (p1 : Int32) (p2 : Int32) (p3 : Int32) (p4 : Int32) (σ μ ω : Mem) (res : (Int32 ⊕ Nat) × Mem) (h : fX5_bestStay p1 p2 p3 p4 σ = some res) : CTX l cy D B ek yX5_bestStay cX5_bestStay 11 (some .int) ({ frames := 8, cells := 5, slots := 30, locals := 166 } : Room) 5 30 [.ref (B + oHB), .int p1, .int p2, .int p3, .int p4] σ μ ω (Sum.map (fun x => some (Value.int x)) id res.1) res.2 μ ω := by
  refine met_XX (own := "HostelBeds") (by decide) rfl (Nat.le_of_ble_eq_true rfl) ?_
  intro p e s m args below meth c C hrT hlk htab
  have hret : ∀ (x9 : Int32), res.1 = .inl x9 → ∀ (cells9 slots9 pc9 : Nat) (lcs9 : List (Nat × Value)), decode cX5_bestStay pc9 = .ok (.ireturn, 1) → narrow .int (.int x9) = .int x9 → cells9 ≤ 5 → slots9 ≤ 30 → X p l e ({ frames := 8, cells := 5, slots := 30, locals := 166 } : Room) s m args below meth c 11 cy D B cells9 slots9 (vx_MQ below (QX cy D B (Sum.map (fun x => some (Value.int x)) id res.1) res.2 μ ω) (XCX cy D B (Sum.map (fun x => some (Value.int x)) id res.1) res.2 μ ω) args s 5 30 (aB B)) pc9 lcs9 [.int x9] res.2 μ ω := fun x9 hx9 cells9 slots9 pc9 lcs9 hd hn h1 h2 => by rw [hx9]; exact x_zretX C hrT hlk hn hd h1 h2
  have hout : ∀ (k9 : Nat), res.1 = .inr k9 → ∀ (cells9 slots9 pc9 : Nat) (lcs9 : List (Nat × Value)) (st9 : List Value), cells9 ≤ 5 → slots9 ≤ 30 → XO p l e ({ frames := 8, cells := 5, slots := 30, locals := 166 } : Room) s m args below meth c 11 cy D B cells9 slots9 (vx_MQ below (QX cy D B (Sum.map (fun x => some (Value.int x)) id res.1) res.2 μ ω) (XCX cy D B (Sum.map (fun x => some (Value.int x)) id res.1) res.2 μ ω) args s 5 30 (aB B)) pc9 lcs9 st9 res.2 μ ω k9 := fun k9 hx9 cells9 slots9 pc9 lcs9 st9 h1 h2 => by rw [hx9]; exact x_out C htab hlk h1 h2
  have hthr : True := trivial
  generalize (vx_MQ below (QX cy D B (Sum.map (fun x => some (Value.int x)) id res.1) res.2 μ ω) (XCX cy D B (Sum.map (fun x => some (Value.int x)) id res.1) res.2 μ ω) args s 5 30 (aB B)) = Q at hret hthr hout ⊢
  obtain ⟨R, hR9⟩ : ∃ R : Room, R = ({ frames := 8, cells := 5, slots := 30, locals := 166 } : Room) := ⟨_, rfl⟩
  rw [← hR9] at hret hout ⊢
  unfold fX5_bestStay at h
  show X p l e R s m args below meth c 11 cy D B 0 0 Q 0 [(0, .ref (B + oHB)), (1, .int p1), (2, .int p2), (3, .int p3), (4, .int p4)] [] σ μ ω
  refine x_iload_n C dX5_bestStay_0 rfl 1 rfl ?_
  refine x_iconst C (v := 1) dX5_bestStay_1 (by decide) ?_
  refine x_iload_n C dX5_bestStay_2 rfl 2 rfl ?_
  refine x_iload_n C dX5_bestStay_3 rfl 3 rfl ?_
  refine x_iload C dX5_bestStay_4 4 rfl ?_
  obtain ⟨q1, hk1, h⟩ := Option.bind_eq_some_iff.mp h
  refine x_callSX C (As := [.int p1, .int (1 : Int32), .int p2, .int p3, .int p4]) (rest := []) (cells2 := 5) (slots2 := 30) (lw_g_mk tw_994 rfl) (okX5_checkGroup l hlf cy D B ek p1 (1 : Int32) p2 p3 p4 σ μ ω _ hk1) rfl rfl (by rw [hR9]; decide) (lw_g_mk tw_995 rfl) (lw_g_mk tw_1 rfl) (by decide) rfl (lw_g_mk tw_993 rfl) rfl (Nat.le_of_ble_eq_true rfl) dX5_bestStay_6 (by rw [hR9]; decide) rfl rfl (fun v2 hv3 => ?_) (fun k4 hv5 => ?_)
  · rcases q1 with x2 | e3
    · rw [Sum.elim_inl] at h
      have hv3 : (Sum.inl (none) : Option Value ⊕ Nat) = .inl v2 := hv3
      cases hv3
      refine x_aload_n C dX5_bestStay_9 rfl 0 rfl ?_
      refine x_iload_n C dX5_bestStay_10 rfl 1 rfl ?_
      refine x_iconst C (v := 1) dX5_bestStay_11 (by decide) ?_
      refine x_iload_n C dX5_bestStay_12 rfl 2 rfl ?_
      refine x_iload_n C dX5_bestStay_13 rfl 3 rfl ?_
      refine x_iload C dX5_bestStay_14 4 rfl ?_
      obtain ⟨q4, hk7, h⟩ := Option.bind_eq_some_iff.mp h
      refine x_callV C (As := [.int p1, .int (1 : Int32), .int p2, .int p3, .int p4]) (rest := []) (lw_g_mk tw_1002 rfl) (lw_g_mk tsel_10 rfl) (c_HB) (C1 := "HostelBeds") (T := TX5) (N := 12) (ci := 5) rfl (okX5_addToSpare l cy D B ek p1 (1 : Int32) p2 p3 p4 σ μ ω _ hk7) rfl rfl (by rw [hR9]; decide) (lw_g_mk tw_1003 rfl) (lw_g_mk tw_1 rfl) (by decide) rfl (lw_g_mk tw_1000 rfl) rfl (Nat.le_of_ble_eq_true rfl) dX5_bestStay_16 (by rw [hR9]; decide) ?_
      refine x_istore C [(5, .int q4.1), (0, .ref (B + oHB)), (1, .int p1), (2, .int p2), (3, .int p3), (4, .int p4)] dX5_bestStay_19 (by decide) rfl ?_
      refine x_aload_n C dX5_bestStay_21 rfl 1 rfl ?_
      refine x_get C (C1 := "HostelBeds") (T := TX5) (N := 12) (ci := 5) inXg5 _ (c_HB) rfl 3 (by decide) (lw_g_mk tw_290 rfl) rfl dX5_bestStay_22 ?_
      obtain ⟨hg8, h⟩ := gd_some h
      refine x_get C (C1 := "HostelBeds$Hostel") (T := TX1) (N := 12) (ci := 1) inXg1 _ (c_Ho hg8) rfl 3 (by decide) (lw_g_mk tw_197 rfl) rfl dX5_bestStay_25 ?_
      refine x_iload C dX5_bestStay_28 0 rfl ?_
      obtain ⟨hg9, h⟩ := gd_some h
      refine x_aldq C _ 6 (C1 := "HostelBeds$Booking") (c_Bks hg8) rfl hg9 rfl dX5_bestStay_30 ?_
      refine x_astore C [(6, .ref (B + oBk (rP q4.2 1) q4.1.toNatClampNeg)), (5, .int q4.1), (0, .ref (B + oHB)), (1, .int p1), (2, .int p2), (3, .int p3), (4, .int p4)] dX5_bestStay_31 (by decide) rfl ?_
      refine x_iconst C (v := 0) dX5_bestStay_33 (by decide) ?_
      refine x_istore C [(7, .int (0 : Int32)), (6, .ref (B + oBk (rP q4.2 1) q4.1.toNatClampNeg)), (5, .int q4.1), (0, .ref (B + oHB)), (1, .int p1), (2, .int p2), (3, .int p3), (4, .int p4)] dX5_bestStay_34 (by decide) rfl ?_
      refine x_iconst C (v := 0) dX5_bestStay_36 (by decide) ?_
      refine x_istore C [(8, .int (0 : Int32)), (7, .int (0 : Int32)), (6, .ref (B + oBk (rP q4.2 1) q4.1.toNatClampNeg)), (5, .int q4.1), (0, .ref (B + oHB)), (1, .int p1), (2, .int p2), (3, .int p3), (4, .int p4)] dX5_bestStay_37 (by decide) rfl ?_
      refine x_iconst C (v := 1) dX5_bestStay_39 (by decide) ?_
      refine x_istore C [(9, .int (1 : Int32)), (8, .int (0 : Int32)), (7, .int (0 : Int32)), (6, .ref (B + oBk (rP q4.2 1) q4.1.toNatClampNeg)), (5, .int q4.1), (0, .ref (B + oHB)), (1, .int p1), (2, .int p2), (3, .int p3), (4, .int p4)] dX5_bestStay_40 (by decide) rfl ?_
      obtain ⟨b42, hk18, h⟩ := Option.bind_eq_some_iff.mp h
      refine x_sub [5, 6, 3, 2, 1, 0] rfl ?_
      refine loop_run (step := stX5_bestStay_42 p1 q4) (P := fun (a42 : Int32 × Int32 × Int32 × Mem) => X p l e R s m args below meth c 11 cy D B 5 30 Q 42 [(0, .ref (B + oHB)), (1, .int p1), (6, .ref (B + oBk (rP q4.2 1) q4.1.toNatClampNeg)), (7, .int a42.1), (8, .int a42.2.1), (9, .int a42.2.2.1)] [] a42.2.2.2 μ ω) (K := fun (b42 : Int32 × Mem) => X p l e R s m args below meth c 11 cy D B 5 30 Q 90 [(7, .int b42.1)] [] b42.2 μ ω) ?_ 5000 ((0 : Int32), (0 : Int32), (1 : Int32), q4.2) b42 hk18 ?_
      · intro a42 r h hA10 hB11
        unfold stX5_bestStay_42 at h
        refine x_iload C dX5_bestStay_42 5 rfl ?_
        refine x_bipush C (v := 30) dX5_bestStay_44 (by decide) ?_
        refine x_iload_n C dX5_bestStay_46 rfl 1 rfl ?_
        refine x_isub C dX5_bestStay_47 ?_
        refine x_icmp_gt C (tgt := 90) dX5_bestStay_48 (by decide) (fun hc12 => ?_) (fun hc12 => ?_)
        · rw [if_pos hc12] at h
          cases h
          refine x_sub [3] rfl ?_
          exact hB11 (a42.1, a42.2.2.2) rfl
        · rw [if_neg hc12] at h
          refine x_aload C dX5_bestStay_51 2 rfl ?_
          refine x_iload C dX5_bestStay_53 5 rfl ?_
          refine x_put C (C1 := "HostelBeds$Booking") (T := TX0) (N := 11) (ci := 0) inXg0 tyX0 tyX0_ok nmX0 _ (c_Bk hg8 (inb_lt hg9)) rfl 2 (by decide) (lw_g_mk tw_120 rfl) rfl rfl rfl rfl (Nat.le_of_ble_eq_true rfl) dX5_bestStay_55 (s_Bk_nights hg8 (inb_lt hg9)) ?_
          refine x_aload_n C dX5_bestStay_58 rfl 0 rfl ?_
          obtain ⟨q5, hk13, h⟩ := Option.bind_eq_some_iff.mp h
          refine x_callV C (As := []) (rest := []) (lw_g_mk tw_410 rfl) (lw_g_mk tsel_1 rfl) (c_HB) (C1 := "HostelBeds") (T := TX5) (N := 12) (ci := 5) rfl (okX5_netOfSpare l cy D B ek (wI a42.2.2.2 41 (rP q4.2 1) q4.1.toNatClampNeg a42.2.2.1) μ ω _ hk13) rfl rfl (by rw [hR9]; decide) (lw_g_mk tw_411 rfl) (lw_g_mk tw_1 rfl) (by decide) rfl (lw_g_mk tw_408 rfl) rfl (Nat.le_of_ble_eq_true rfl) dX5_bestStay_59 (by rw [hR9]; decide) ?_
          refine x_istore C [(10, .int q5.1), (0, .ref (B + oHB)), (1, .int p1), (6, .ref (B + oBk (rP q4.2 1) q4.1.toNatClampNeg)), (7, .int a42.1), (8, .int a42.2.1), (9, .int a42.2.2.1)] dX5_bestStay_62 (by decide) rfl ?_
          refine x_iload C dX5_bestStay_64 4 rfl ?_
          have hJ14 : ∀ (x6 : Int32) (x7 : Int32) (r9 : (Int32 × Int32 × Int32 × Mem) ⊕ (Int32 × Mem)), jX5_bestStay_84 a42 q5 x6 x7 = some r9 → (∀ a2, r9 = .inl a2 → (fun (a42 : Int32 × Int32 × Int32 × Mem) => X p l e R s m args below meth c 11 cy D B 5 30 Q 42 [(0, .ref (B + oHB)), (1, .int p1), (6, .ref (B + oBk (rP q4.2 1) q4.1.toNatClampNeg)), (7, .int a42.1), (8, .int a42.2.1), (9, .int a42.2.2.1)] [] a42.2.2.2 μ ω) a2) → (∀ b2, r9 = .inr b2 → (fun (b42 : Int32 × Mem) => X p l e R s m args below meth c 11 cy D B 5 30 Q 90 [(7, .int b42.1)] [] b42.2 μ ω) b2) → X p l e R s m args below meth c 11 cy D B 5 30 Q 84 [(0, .ref (B + oHB)), (1, .int p1), (6, .ref (B + oBk (rP q4.2 1) q4.1.toNatClampNeg)), (7, .int x6), (8, .int x7), (9, .int a42.2.2.1)] [] q5.2 μ ω := by
            intro x6 x7 r h hA10 hB11
            unfold jX5_bestStay_84 at h
            refine x_iinc C (k := 5) [(9, .int (a42.2.2.1 + (1 : Int32))), (0, .ref (B + oHB)), (1, .int p1), (6, .ref (B + oBk (rP q4.2 1) q4.1.toNatClampNeg)), (7, .int x6), (8, .int x7)] dX5_bestStay_84 rfl rfl (by decide) rfl ?_
            refine x_goto C (tgt := 42) dX5_bestStay_87 (by decide) ?_
            cases h
            refine x_sub [1, 2, 3, 4, 5, 0] rfl ?_
            exact hA10 (x6, x7, a42.2.2.1 + (1 : Int32), q5.2) rfl
          have hJ15 : ∀ (r9 : (Int32 × Int32 × Int32 × Mem) ⊕ (Int32 × Mem)), jX5_bestStay_76 a42 q5 = some r9 → (∀ a2, r9 = .inl a2 → (fun (a42 : Int32 × Int32 × Int32 × Mem) => X p l e R s m args below meth c 11 cy D B 5 30 Q 42 [(0, .ref (B + oHB)), (1, .int p1), (6, .ref (B + oBk (rP q4.2 1) q4.1.toNatClampNeg)), (7, .int a42.1), (8, .int a42.2.1), (9, .int a42.2.2.1)] [] a42.2.2.2 μ ω) a2) → (∀ b2, r9 = .inr b2 → (fun (b42 : Int32 × Mem) => X p l e R s m args below meth c 11 cy D B 5 30 Q 90 [(7, .int b42.1)] [] b42.2 μ ω) b2) → X p l e R s m args below meth c 11 cy D B 5 30 Q 76 [(0, .ref (B + oHB)), (1, .int p1), (6, .ref (B + oBk (rP q4.2 1) q4.1.toNatClampNeg)), (9, .int a42.2.2.1), (10, .int q5.1)] [] q5.2 μ ω := by
            intro r h hA10 hB11
            unfold jX5_bestStay_76 at h
            refine x_iload C dX5_bestStay_76 3 rfl ?_
            refine x_istore C [(7, .int a42.2.2.1), (0, .ref (B + oHB)), (1, .int p1), (6, .ref (B + oBk (rP q4.2 1) q4.1.toNatClampNeg)), (9, .int a42.2.2.1), (10, .int q5.1)] dX5_bestStay_78 (by decide) rfl ?_
            refine x_iload C dX5_bestStay_80 5 rfl ?_
            refine x_istore C [(8, .int q5.1), (7, .int a42.2.2.1), (0, .ref (B + oHB)), (1, .int p1), (6, .ref (B + oBk (rP q4.2 1) q4.1.toNatClampNeg)), (9, .int a42.2.2.1), (10, .int q5.1)] dX5_bestStay_82 (by decide) rfl ?_
            refine x_sub [2, 3, 4, 1, 0, 5] rfl ?_
            exact hJ14 a42.2.2.1 q5.1 _ h hA10 hB11
          refine x_if_eq C (tgt := 76) dX5_bestStay_66 (by decide) (fun hc16 => ?_) (fun hc16 => ?_)
          · rw [if_pos hc16] at h
            refine x_sub [1, 2, 3, 6, 0] rfl ?_
            exact hJ15 _ h hA10 hB11
          · rw [if_neg hc16] at h
            refine x_iload C dX5_bestStay_69 0 rfl ?_
            refine x_iload C dX5_bestStay_71 5 rfl ?_
            refine x_icmp_le C (tgt := 84) dX5_bestStay_73 (by decide) (fun hc17 => ?_) (fun hc17 => ?_)
            · rw [if_pos hc17] at h
              refine x_sub [1, 2, 3, 4, 5, 6] rfl ?_
              exact hJ14 a42.1 a42.2.1 _ h hA10 hB11
            · rw [if_neg hc17] at h
              refine x_sub [1, 2, 3, 6, 0] rfl ?_
              exact hJ15 _ h hA10 hB11
      · show X p l e R s m args below meth c 11 cy D B 5 30 Q 90 [(7, .int b42.1)] [] b42.2 μ ω
        refine x_iload C dX5_bestStay_90 0 rfl ?_
        cases h
        exact hret _ rfl _ _ _ _ dX5_bestStay_92 rfl (by decide) (by decide)
    · cases hv3
  · rcases q1 with x2 | e3
    · cases hv5
    · rw [Sum.elim_inr] at h
      have hv5 : (Sum.inr e3 : Option Value ⊕ Nat) = .inr k4 := hv5
      cases hv5
      cases h
      exact hout _ rfl _ _ _ _ _ (by decide) (by decide)
def fX5_netWithout (p1 : Int32) (σ : Mem) : Option ((Int32 ⊕ Nat) × Mem) := ((fX5_checkBooking p1 σ).bind fun q1 => Sum.elim (fun x2 => (gd (rP σ 0 < 12) (gd (inb p1 17) (if (rI σ 49 (rP σ 0) p1.toNatClampNeg) = (1 : Int32) then (gd (rP σ 1 < 12) ((fX1_copy (rP σ 1) (rP σ 0) σ).bind fun q4 => (gd (rP q4 1 < 12) ((fX1_drop (rP q4 1) p1 q4).bind fun q5 => ((fX5_netOfSpare q5).bind fun q6 => (some (.inl q6.1, q6.2))))))) else (some (.inl ((rI σ 55 0 0) - (rI σ 56 0 0)), σ)))))) (fun e3 => (some (.inr e3, σ))) q1)
set_option maxHeartbeats 4000000 in
set_option maxRecDepth 100000 in
theorem okX5_netWithout (l : Launch) (hlf : l.stackTraces = false) (cy : Nat → ClassId) (D : va_G) (B : Nat) (ek : EK) (p1 : Int32) (σ μ ω : Mem) (res : (Int32 ⊕ Nat) × Mem) (h : fX5_netWithout p1 σ = some res) : CTX l cy D B ek yX5_netWithout cX5_netWithout 2 (some .int) ({ frames := 7, cells := 1, slots := 6, locals := 142 } : Room) 1 6 [.ref (B + oHB), .int p1] σ μ ω (Sum.map (fun x => some (Value.int x)) id res.1) res.2 μ ω := by
  refine met_XX (own := "HostelBeds") (by decide) rfl (Nat.le_of_ble_eq_true rfl) ?_
  intro p e s m args below meth c C hrT hlk htab
  have hret : ∀ (x9 : Int32), res.1 = .inl x9 → ∀ (cells9 slots9 pc9 : Nat) (lcs9 : List (Nat × Value)), decode cX5_netWithout pc9 = .ok (.ireturn, 1) → narrow .int (.int x9) = .int x9 → cells9 ≤ 1 → slots9 ≤ 6 → X p l e ({ frames := 7, cells := 1, slots := 6, locals := 142 } : Room) s m args below meth c 2 cy D B cells9 slots9 (vx_MQ below (QX cy D B (Sum.map (fun x => some (Value.int x)) id res.1) res.2 μ ω) (XCX cy D B (Sum.map (fun x => some (Value.int x)) id res.1) res.2 μ ω) args s 1 6 (aB B)) pc9 lcs9 [.int x9] res.2 μ ω := fun x9 hx9 cells9 slots9 pc9 lcs9 hd hn h1 h2 => by rw [hx9]; exact x_zretX C hrT hlk hn hd h1 h2
  have hout : ∀ (k9 : Nat), res.1 = .inr k9 → ∀ (cells9 slots9 pc9 : Nat) (lcs9 : List (Nat × Value)) (st9 : List Value), cells9 ≤ 1 → slots9 ≤ 6 → XO p l e ({ frames := 7, cells := 1, slots := 6, locals := 142 } : Room) s m args below meth c 2 cy D B cells9 slots9 (vx_MQ below (QX cy D B (Sum.map (fun x => some (Value.int x)) id res.1) res.2 μ ω) (XCX cy D B (Sum.map (fun x => some (Value.int x)) id res.1) res.2 μ ω) args s 1 6 (aB B)) pc9 lcs9 st9 res.2 μ ω k9 := fun k9 hx9 cells9 slots9 pc9 lcs9 st9 h1 h2 => by rw [hx9]; exact x_out C htab hlk h1 h2
  have hthr : True := trivial
  generalize (vx_MQ below (QX cy D B (Sum.map (fun x => some (Value.int x)) id res.1) res.2 μ ω) (XCX cy D B (Sum.map (fun x => some (Value.int x)) id res.1) res.2 μ ω) args s 1 6 (aB B)) = Q at hret hthr hout ⊢
  obtain ⟨R, hR9⟩ : ∃ R : Room, R = ({ frames := 7, cells := 1, slots := 6, locals := 142 } : Room) := ⟨_, rfl⟩
  rw [← hR9] at hret hout ⊢
  unfold fX5_netWithout at h
  show X p l e R s m args below meth c 2 cy D B 0 0 Q 0 [(0, .ref (B + oHB)), (1, .int p1)] [] σ μ ω
  refine x_aload_n C dX5_netWithout_0 rfl 0 rfl ?_
  refine x_iload_n C dX5_netWithout_1 rfl 1 rfl ?_
  obtain ⟨q1, hk1, h⟩ := Option.bind_eq_some_iff.mp h
  refine x_callVX C (As := [.int p1]) (rest := []) (cells2 := 1) (slots2 := 6) (lw_g_mk tw_788 rfl) (lw_g_mk tsel_4 rfl) (c_HB) (C1 := "HostelBeds") (T := TX5) (N := 12) (ci := 5) rfl (okX5_checkBooking l hlf cy D B ek p1 σ μ ω _ hk1) rfl rfl (by rw [hR9]; decide) (lw_g_mk tw_789 rfl) (lw_g_mk tw_1 rfl) (by decide) rfl (lw_g_mk tw_786 rfl) rfl (Nat.le_of_ble_eq_true rfl) dX5_netWithout_2 (by rw [hR9]; decide) rfl rfl (fun v2 hv3 => ?_) (fun k4 hv5 => ?_)
  · rcases q1 with x2 | e3
    · rw [Sum.elim_inl] at h
      have hv3 : (Sum.inl (none) : Option Value ⊕ Nat) = .inl v2 := hv3
      cases hv3
      refine x_aload_n C dX5_netWithout_5 rfl 0 rfl ?_
      refine x_get C (C1 := "HostelBeds") (T := TX5) (N := 12) (ci := 5) inXg5 _ (c_HB) rfl 2 (by decide) (lw_g_mk tw_289 rfl) rfl dX5_netWithout_6 ?_
      obtain ⟨hg7, h⟩ := gd_some h
      refine x_get C (C1 := "HostelBeds$Hostel") (T := TX1) (N := 12) (ci := 1) inXg1 _ (c_Ho hg7) rfl 3 (by decide) (lw_g_mk tw_197 rfl) rfl dX5_netWithout_9 ?_
      refine x_iload_n C dX5_netWithout_12 rfl 1 rfl ?_
      obtain ⟨hg8, h⟩ := gd_some h
      refine x_aldq C _ 6 (C1 := "HostelBeds$Booking") (c_Bks hg7) rfl hg8 rfl dX5_netWithout_13 ?_
      refine x_get C (C1 := "HostelBeds$Booking") (T := TX0) (N := 11) (ci := 0) inXg0 _ (c_Bk hg7 (inb_lt hg8)) rfl 10 (by decide) (lw_g_mk tw_151 rfl) rfl dX5_netWithout_14 ?_
      refine x_iconst C (v := 1) dX5_netWithout_17 (by decide) ?_
      refine x_icmp_eq C (tgt := 37) dX5_netWithout_18 (by decide) (fun hc9 => ?_) (fun hc9 => ?_)
      · rw [if_pos hc9] at h
        refine x_aload_n C dX5_netWithout_37 rfl 0 rfl ?_
        refine x_get C (C1 := "HostelBeds") (T := TX5) (N := 12) (ci := 5) inXg5 _ (c_HB) rfl 3 (by decide) (lw_g_mk tw_290 rfl) rfl dX5_netWithout_38 ?_
        obtain ⟨hg10, h⟩ := gd_some h
        refine x_aload_n C dX5_netWithout_41 rfl 0 rfl ?_
        refine x_get C (C1 := "HostelBeds") (T := TX5) (N := 12) (ci := 5) inXg5 _ (c_HB) rfl 2 (by decide) (lw_g_mk tw_289 rfl) rfl dX5_netWithout_42 ?_
        obtain ⟨q4, hk11, h⟩ := Option.bind_eq_some_iff.mp h
        refine x_callV C (As := [.ref (B + oHo (rP σ 0))]) (rest := []) (lw_g_mk tw_363 rfl) (lw_g_mk tw_364 rfl) (c_Ho hg10) (C1 := "HostelBeds$Hostel") (T := TX1) (N := 12) (ci := 1) rfl (okX1_copy l cy D B ek (rP σ 1) (rP σ 0) σ μ ω hg10 hg7 _ hk11) rfl rfl (by rw [hR9]; decide) (lw_g_mk tw_365 rfl) (lw_g_mk tw_3 rfl) (by decide) rfl (lw_g_mk tw_362 rfl) rfl (Nat.le_of_ble_eq_true rfl) dX5_netWithout_45 (by rw [hR9]; decide) ?_
        refine x_aload_n C dX5_netWithout_48 rfl 0 rfl ?_
        refine x_get C (C1 := "HostelBeds") (T := TX5) (N := 12) (ci := 5) inXg5 _ (c_HB) rfl 3 (by decide) (lw_g_mk tw_290 rfl) rfl dX5_netWithout_49 ?_
        obtain ⟨hg12, h⟩ := gd_some h
        refine x_iload_n C dX5_netWithout_52 rfl 1 rfl ?_
        obtain ⟨q5, hk13, h⟩ := Option.bind_eq_some_iff.mp h
        refine x_callV C (As := [.int p1]) (rest := []) (lw_g_mk tw_702 rfl) (lw_g_mk tw_703 rfl) (c_Ho hg12) (C1 := "HostelBeds$Hostel") (T := TX1) (N := 12) (ci := 1) rfl (okX1_drop l cy D B ek (rP q4 1) p1 q4 μ ω hg12 _ hk13) rfl rfl (by rw [hR9]; decide) (lw_g_mk tw_704 rfl) (lw_g_mk tw_3 rfl) (by decide) rfl (lw_g_mk tw_1019 rfl) rfl (Nat.le_of_ble_eq_true rfl) dX5_netWithout_53 (by rw [hR9]; decide) ?_
        refine x_aload_n C dX5_netWithout_56 rfl 0 rfl ?_
        obtain ⟨q6, hk14, h⟩ := Option.bind_eq_some_iff.mp h
        refine x_callV C (As := []) (rest := []) (lw_g_mk tw_410 rfl) (lw_g_mk tsel_1 rfl) (c_HB) (C1 := "HostelBeds") (T := TX5) (N := 12) (ci := 5) rfl (okX5_netOfSpare l cy D B ek q5 μ ω _ hk14) rfl rfl (by rw [hR9]; decide) (lw_g_mk tw_411 rfl) (lw_g_mk tw_1 rfl) (by decide) rfl (lw_g_mk tw_408 rfl) rfl (Nat.le_of_ble_eq_true rfl) dX5_netWithout_57 (by rw [hR9]; decide) ?_
        cases h
        exact hret _ rfl _ _ _ _ dX5_netWithout_60 rfl (by decide) (by decide)
      · rw [if_neg hc9] at h
        refine x_aload_n C dX5_netWithout_21 rfl 0 rfl ?_
        refine x_get C (C1 := "HostelBeds") (T := TX5) (N := 12) (ci := 5) inXg5 _ (c_HB) rfl 4 (by decide) (lw_g_mk tw_291 rfl) rfl dX5_netWithout_22 ?_
        refine x_get C (C1 := "HostelBeds$Plan") (T := TX3) (N := 8) (ci := 3) inXg3 _ (c_Pl (by decide)) rfl 5 (by decide) (lw_g_mk tw_265 rfl) rfl dX5_netWithout_25 ?_
        refine x_aload_n C dX5_netWithout_28 rfl 0 rfl ?_
        refine x_get C (C1 := "HostelBeds") (T := TX5) (N := 12) (ci := 5) inXg5 _ (c_HB) rfl 4 (by decide) (lw_g_mk tw_291 rfl) rfl dX5_netWithout_29 ?_
        refine x_get C (C1 := "HostelBeds$Plan") (T := TX3) (N := 8) (ci := 3) inXg3 _ (c_Pl (by decide)) rfl 6 (by decide) (lw_g_mk tw_267 rfl) rfl dX5_netWithout_32 ?_
        refine x_isub C dX5_netWithout_35 ?_
        cases h
        exact hret _ rfl _ _ _ _ dX5_netWithout_36 rfl (by decide) (by decide)
    · cases hv3
  · rcases q1 with x2 | e3
    · cases hv5
    · rw [Sum.elim_inr] at h
      have hv5 : (Sum.inr e3 : Option Value ⊕ Nat) = .inr k4 := hv5
      cases hv5
      cases h
      exact hout _ rfl _ _ _ _ _ (by decide) (by decide)
def jX5_bestOver_80 (a20 : Int32 × Int32 × Int32 × Int32 × Mem) (x3 : Int32) (x4 : Int32) (x5 : Int32) (σ6 : Mem) : Option ((Int32 × Int32 × Int32 × Int32 × Mem) ⊕ (Int32 × Mem)) := (some (.inl (x3, x4, x5, a20.2.2.2.1 + (1 : Int32), σ6)))
def jX5_bestOver_77 (a20 : Int32 × Int32 × Int32 × Int32 × Mem) (q2 : Int32 × Mem) (q7 : Int32 × Mem) (x8 : Int32) (x9 : Int32) : Option ((Int32 × Int32 × Int32 × Int32 × Mem) ⊕ (Int32 × Mem)) := (jX5_bestOver_80 a20 x8 x9 q2.1 q7.2)
def jX5_bestOver_71 (a20 : Int32 × Int32 × Int32 × Int32 × Mem) (q2 : Int32 × Mem) (q7 : Int32 × Mem) : Option ((Int32 × Int32 × Int32 × Int32 × Mem) ⊕ (Int32 × Mem)) := (jX5_bestOver_77 a20 q2 q7 a20.2.2.2.1 q7.1)
def stX5_bestOver_20 (a20 : Int32 × Int32 × Int32 × Int32 × Mem) : Option ((Int32 × Int32 × Int32 × Int32 × Mem) ⊕ (Int32 × Mem)) := (if (50 : Int32) < a20.2.2.2.1 then (some (.inr (a20.1, a20.2.2.2.2))) else (gd (rP a20.2.2.2.2 1 < 12) (gd (rP (wI a20.2.2.2.2 24 (rP a20.2.2.2.2 1) 0 a20.2.2.2.1) 1 < 12) ((fX1_tellAnew (rP (wI a20.2.2.2.2 24 (rP a20.2.2.2.2 1) 0 a20.2.2.2.1) 1) (wI a20.2.2.2.2 24 (rP a20.2.2.2.2 1) 0 a20.2.2.2.1)).bind fun q2 => (if ¬ q2.1 = a20.2.2.1 then ((fX5_netOfSpare q2.2).bind fun q7 => (if a20.2.2.1 = (-1 : Int32) then (jX5_bestOver_71 a20 q2 q7) else (if q7.1 ≤ a20.2.1 then (jX5_bestOver_77 a20 q2 q7 a20.1 a20.2.1) else (jX5_bestOver_71 a20 q2 q7)))) else (jX5_bestOver_80 a20 a20.1 a20.2.1 a20.2.2.1 q2.2))))))
def fX5_bestOver (σ : Mem) : Option (Int32 × Mem) := (gd (rP σ 1 < 12) (gd (rP σ 0 < 12) ((fX1_copy (rP σ 1) (rP σ 0) σ).bind fun q1 => ((loop (stX5_bestOver_20) 5000 ((0 : Int32), (0 : Int32), (-1 : Int32), (0 : Int32), q1)).bind fun b20 => (some (b20.1, b20.2))))))
set_option maxHeartbeats 4000000 in
set_option maxRecDepth 100000 in
theorem okX5_bestOver (l : Launch) (cy : Nat → ClassId) (D : va_G) (B : Nat) (ek : EK) (σ μ ω : Mem) (res : Int32 × Mem) (h : fX5_bestOver σ = some res) : CT l cy D B ek yX5_bestOver cX5_bestOver 7 (some .int) ({ frames := 6, cells := 0, slots := 0, locals := 142 } : Room) [.ref (B + oHB)] σ μ ω (some (.int res.1)) res.2 μ ω := by
  refine met_X (own := "HostelBeds") (by decide) rfl (Nat.le_of_ble_eq_true rfl) ?_
  intro p e s m args below meth c C hrT hlk
  have hret : ∀ (pc9 : Nat) (lcs9 : List (Nat × Value)), decode cX5_bestOver pc9 = .ok (.ireturn, 1) → narrow .int (.int res.1) = .int res.1 → X p l e ({ frames := 6, cells := 0, slots := 0, locals := 142 } : Room) s m args below meth c 7 cy D B 0 0 (MQ below (QR cy D B (some (.int res.1)) res.2 μ ω) args s 0 0 (aB B)) pc9 lcs9 [.int res.1] res.2 μ ω := fun _ _ hd hn => x_zret C hrT hlk hn hd
  generalize (MQ below (QR cy D B (some (.int res.1)) res.2 μ ω) args s 0 0 (aB B)) = Q at hret ⊢
  obtain ⟨R, hR9⟩ : ∃ R : Room, R = ({ frames := 6, cells := 0, slots := 0, locals := 142 } : Room) := ⟨_, rfl⟩
  rw [← hR9] at hret ⊢
  unfold fX5_bestOver at h
  show X p l e R s m args below meth c 7 cy D B 0 0 Q 0 [(0, .ref (B + oHB))] [] σ μ ω
  refine x_aload_n C dX5_bestOver_0 rfl 0 rfl ?_
  refine x_get C (C1 := "HostelBeds") (T := TX5) (N := 12) (ci := 5) inXg5 _ (c_HB) rfl 3 (by decide) (lw_g_mk tw_290 rfl) rfl dX5_bestOver_1 ?_
  obtain ⟨hg1, h⟩ := gd_some h
  refine x_aload_n C dX5_bestOver_4 rfl 0 rfl ?_
  refine x_get C (C1 := "HostelBeds") (T := TX5) (N := 12) (ci := 5) inXg5 _ (c_HB) rfl 2 (by decide) (lw_g_mk tw_289 rfl) rfl dX5_bestOver_5 ?_
  obtain ⟨hg2, h⟩ := gd_some h
  obtain ⟨q1, hk3, h⟩ := Option.bind_eq_some_iff.mp h
  refine x_callV C (As := [.ref (B + oHo (rP σ 0))]) (rest := []) (lw_g_mk tw_363 rfl) (lw_g_mk tw_364 rfl) (c_Ho hg1) (C1 := "HostelBeds$Hostel") (T := TX1) (N := 12) (ci := 1) rfl (okX1_copy l cy D B ek (rP σ 1) (rP σ 0) σ μ ω hg1 hg2 _ hk3) rfl rfl (by rw [hR9]; decide) (lw_g_mk tw_365 rfl) (lw_g_mk tw_3 rfl) (by decide) rfl (lw_g_mk tw_362 rfl) rfl (Nat.le_of_ble_eq_true rfl) dX5_bestOver_8 (by rw [hR9]; decide) ?_
  refine x_iconst C (v := 0) dX5_bestOver_11 (by decide) ?_
  refine x_istore_n C [(1, .int (0 : Int32)), (0, .ref (B + oHB))] dX5_bestOver_12 rfl (by decide) rfl ?_
  refine x_iconst C (v := 0) dX5_bestOver_13 (by decide) ?_
  refine x_istore_n C [(2, .int (0 : Int32)), (1, .int (0 : Int32)), (0, .ref (B + oHB))] dX5_bestOver_14 rfl (by decide) rfl ?_
  refine x_iconst C (v := -1) dX5_bestOver_15 (by decide) ?_
  refine x_istore_n C [(3, .int (-1 : Int32)), (2, .int (0 : Int32)), (1, .int (0 : Int32)), (0, .ref (B + oHB))] dX5_bestOver_16 rfl (by decide) rfl ?_
  refine x_iconst C (v := 0) dX5_bestOver_17 (by decide) ?_
  refine x_istore C [(4, .int (0 : Int32)), (3, .int (-1 : Int32)), (2, .int (0 : Int32)), (1, .int (0 : Int32)), (0, .ref (B + oHB))] dX5_bestOver_18 (by decide) rfl ?_
  obtain ⟨b20, hk17, h⟩ := Option.bind_eq_some_iff.mp h
  refine x_sub [4, 3, 2, 1, 0] rfl ?_
  refine loop_run (step := stX5_bestOver_20) (P := fun (a20 : Int32 × Int32 × Int32 × Int32 × Mem) => X p l e R s m args below meth c 7 cy D B 0 0 Q 20 [(0, .ref (B + oHB)), (1, .int a20.1), (2, .int a20.2.1), (3, .int a20.2.2.1), (4, .int a20.2.2.2.1)] [] a20.2.2.2.2 μ ω) (K := fun (b20 : Int32 × Mem) => X p l e R s m args below meth c 7 cy D B 0 0 Q 86 [(1, .int b20.1)] [] b20.2 μ ω) ?_ 5000 ((0 : Int32), (0 : Int32), (-1 : Int32), (0 : Int32), q1) b20 hk17 ?_
  · intro a20 r h hA4 hB5
    unfold stX5_bestOver_20 at h
    refine x_iload C dX5_bestOver_20 4 rfl ?_
    refine x_bipush C (v := 50) dX5_bestOver_22 (by decide) ?_
    refine x_icmp_gt C (tgt := 86) dX5_bestOver_24 (by decide) (fun hc6 => ?_) (fun hc6 => ?_)
    · rw [if_pos hc6] at h
      cases h
      refine x_sub [1] rfl ?_
      exact hB5 (a20.1, a20.2.2.2.2) rfl
    · rw [if_neg hc6] at h
      refine x_aload_n C dX5_bestOver_27 rfl 0 rfl ?_
      refine x_get C (C1 := "HostelBeds") (T := TX5) (N := 12) (ci := 5) inXg5 _ (c_HB) rfl 3 (by decide) (lw_g_mk tw_290 rfl) rfl dX5_bestOver_28 ?_
      obtain ⟨hg7, h⟩ := gd_some h
      refine x_iload C dX5_bestOver_31 4 rfl ?_
      refine x_put C (C1 := "HostelBeds$Hostel") (T := TX1) (N := 12) (ci := 1) inXg1 tyX1 tyX1_ok nmX1 _ (c_Ho hg7) rfl 8 (by decide) (lw_g_mk tw_210 rfl) rfl rfl rfl rfl (Nat.le_of_ble_eq_true rfl) dX5_bestOver_33 (s_Ho_over hg7) ?_
      refine x_aload_n C dX5_bestOver_36 rfl 0 rfl ?_
      refine x_get C (C1 := "HostelBeds") (T := TX5) (N := 12) (ci := 5) inXg5 _ (c_HB) rfl 3 (by decide) (lw_g_mk tw_290 rfl) rfl dX5_bestOver_37 ?_
      obtain ⟨hg8, h⟩ := gd_some h
      obtain ⟨q2, hk9, h⟩ := Option.bind_eq_some_iff.mp h
      refine x_callV C (As := []) (rest := []) (lw_g_mk tw_382 rfl) (lw_g_mk tw_383 rfl) (c_Ho hg8) (C1 := "HostelBeds$Hostel") (T := TX1) (N := 12) (ci := 1) rfl (okX1_tellAnew l cy D B ek (rP (wI a20.2.2.2.2 24 (rP a20.2.2.2.2 1) 0 a20.2.2.2.1) 1) (wI a20.2.2.2.2 24 (rP a20.2.2.2.2 1) 0 a20.2.2.2.1) μ ω hg8 _ hk9) rfl rfl (by rw [hR9]; decide) (lw_g_mk tw_384 rfl) (lw_g_mk tw_3 rfl) (by decide) rfl (lw_g_mk tw_381 rfl) rfl (Nat.le_of_ble_eq_true rfl) dX5_bestOver_40 (by rw [hR9]; decide) ?_
      refine x_istore C [(5, .int q2.1), (0, .ref (B + oHB)), (1, .int a20.1), (2, .int a20.2.1), (3, .int a20.2.2.1), (4, .int a20.2.2.2.1)] dX5_bestOver_43 (by decide) rfl ?_
      refine x_iload C dX5_bestOver_45 0 rfl ?_
      refine x_iload_n C dX5_bestOver_47 rfl 4 rfl ?_
      have hJ10 : ∀ (x3 : Int32) (x4 : Int32) (x5 : Int32) (σ6 : Mem) (r9 : (Int32 × Int32 × Int32 × Int32 × Mem) ⊕ (Int32 × Mem)), jX5_bestOver_80 a20 x3 x4 x5 σ6 = some r9 → (∀ a2, r9 = .inl a2 → (fun (a20 : Int32 × Int32 × Int32 × Int32 × Mem) => X p l e R s m args below meth c 7 cy D B 0 0 Q 20 [(0, .ref (B + oHB)), (1, .int a20.1), (2, .int a20.2.1), (3, .int a20.2.2.1), (4, .int a20.2.2.2.1)] [] a20.2.2.2.2 μ ω) a2) → (∀ b2, r9 = .inr b2 → (fun (b20 : Int32 × Mem) => X p l e R s m args below meth c 7 cy D B 0 0 Q 86 [(1, .int b20.1)] [] b20.2 μ ω) b2) → X p l e R s m args below meth c 7 cy D B 0 0 Q 80 [(0, .ref (B + oHB)), (1, .int x3), (2, .int x4), (3, .int x5), (4, .int a20.2.2.2.1)] [] σ6 μ ω := by
        intro x3 x4 x5 σ6 r h hA4 hB5
        unfold jX5_bestOver_80 at h
        refine x_iinc C (k := 4) [(4, .int (a20.2.2.2.1 + (1 : Int32))), (0, .ref (B + oHB)), (1, .int x3), (2, .int x4), (3, .int x5)] dX5_bestOver_80 rfl rfl (by decide) rfl ?_
        refine x_goto C (tgt := 20) dX5_bestOver_83 (by decide) ?_
        cases h
        refine x_sub [1, 2, 3, 4, 0] rfl ?_
        exact hA4 (x3, x4, x5, a20.2.2.2.1 + (1 : Int32), σ6) rfl
      refine x_icmp_ne C (tgt := 54) dX5_bestOver_48 (by decide) (fun hc11 => ?_) (fun hc11 => ?_)
      · rw [if_pos hc11] at h
        refine x_aload_n C dX5_bestOver_54 rfl 1 rfl ?_
        obtain ⟨q7, hk12, h⟩ := Option.bind_eq_some_iff.mp h
        refine x_callV C (As := []) (rest := []) (lw_g_mk tw_410 rfl) (lw_g_mk tsel_1 rfl) (c_HB) (C1 := "HostelBeds") (T := TX5) (N := 12) (ci := 5) rfl (okX5_netOfSpare l cy D B ek q2.2 μ ω _ hk12) rfl rfl (by rw [hR9]; decide) (lw_g_mk tw_411 rfl) (lw_g_mk tw_1 rfl) (by decide) rfl (lw_g_mk tw_408 rfl) rfl (Nat.le_of_ble_eq_true rfl) dX5_bestOver_55 (by rw [hR9]; decide) ?_
        refine x_istore C [(6, .int q7.1), (5, .int q2.1), (0, .ref (B + oHB)), (1, .int a20.1), (2, .int a20.2.1), (3, .int a20.2.2.1), (4, .int a20.2.2.2.1)] dX5_bestOver_58 (by decide) rfl ?_
        refine x_iload_n C dX5_bestOver_60 rfl 5 rfl ?_
        refine x_iconst C (v := -1) dX5_bestOver_61 (by decide) ?_
        have hJ13 : ∀ (x8 : Int32) (x9 : Int32) (r9 : (Int32 × Int32 × Int32 × Int32 × Mem) ⊕ (Int32 × Mem)), jX5_bestOver_77 a20 q2 q7 x8 x9 = some r9 → (∀ a2, r9 = .inl a2 → (fun (a20 : Int32 × Int32 × Int32 × Int32 × Mem) => X p l e R s m args below meth c 7 cy D B 0 0 Q 20 [(0, .ref (B + oHB)), (1, .int a20.1), (2, .int a20.2.1), (3, .int a20.2.2.1), (4, .int a20.2.2.2.1)] [] a20.2.2.2.2 μ ω) a2) → (∀ b2, r9 = .inr b2 → (fun (b20 : Int32 × Mem) => X p l e R s m args below meth c 7 cy D B 0 0 Q 86 [(1, .int b20.1)] [] b20.2 μ ω) b2) → X p l e R s m args below meth c 7 cy D B 0 0 Q 77 [(0, .ref (B + oHB)), (1, .int x8), (2, .int x9), (4, .int a20.2.2.2.1), (5, .int q2.1)] [] q7.2 μ ω := by
          intro x8 x9 r h hA4 hB5
          unfold jX5_bestOver_77 at h
          refine x_iload C dX5_bestOver_77 4 rfl ?_
          refine x_istore_n C [(3, .int q2.1), (0, .ref (B + oHB)), (1, .int x8), (2, .int x9), (4, .int a20.2.2.2.1), (5, .int q2.1)] dX5_bestOver_79 rfl (by decide) rfl ?_
          refine x_sub [1, 2, 3, 0, 4] rfl ?_
          exact hJ10 x8 x9 q2.1 q7.2 _ h hA4 hB5
        have hJ14 : ∀ (r9 : (Int32 × Int32 × Int32 × Int32 × Mem) ⊕ (Int32 × Mem)), jX5_bestOver_71 a20 q2 q7 = some r9 → (∀ a2, r9 = .inl a2 → (fun (a20 : Int32 × Int32 × Int32 × Int32 × Mem) => X p l e R s m args below meth c 7 cy D B 0 0 Q 20 [(0, .ref (B + oHB)), (1, .int a20.1), (2, .int a20.2.1), (3, .int a20.2.2.1), (4, .int a20.2.2.2.1)] [] a20.2.2.2.2 μ ω) a2) → (∀ b2, r9 = .inr b2 → (fun (b20 : Int32 × Mem) => X p l e R s m args below meth c 7 cy D B 0 0 Q 86 [(1, .int b20.1)] [] b20.2 μ ω) b2) → X p l e R s m args below meth c 7 cy D B 0 0 Q 71 [(0, .ref (B + oHB)), (4, .int a20.2.2.2.1), (5, .int q2.1), (6, .int q7.1)] [] q7.2 μ ω := by
          intro r h hA4 hB5
          unfold jX5_bestOver_71 at h
          refine x_iload C dX5_bestOver_71 1 rfl ?_
          refine x_istore_n C [(1, .int a20.2.2.2.1), (0, .ref (B + oHB)), (4, .int a20.2.2.2.1), (5, .int q2.1), (6, .int q7.1)] dX5_bestOver_73 rfl (by decide) rfl ?_
          refine x_iload C dX5_bestOver_74 4 rfl ?_
          refine x_istore_n C [(2, .int q7.1), (1, .int a20.2.2.2.1), (0, .ref (B + oHB)), (4, .int a20.2.2.2.1), (5, .int q2.1), (6, .int q7.1)] dX5_bestOver_76 rfl (by decide) rfl ?_
          refine x_sub [2, 1, 0, 3, 4] rfl ?_
          exact hJ13 a20.2.2.2.1 q7.1 _ h hA4 hB5
        refine x_icmp_eq C (tgt := 71) dX5_bestOver_62 (by decide) (fun hc15 => ?_) (fun hc15 => ?_)
        · rw [if_pos hc15] at h
          refine x_sub [2, 6, 1, 0] rfl ?_
          exact hJ14 _ h hA4 hB5
        · rw [if_neg hc15] at h
          refine x_iload C dX5_bestOver_65 0 rfl ?_
          refine x_iload_n C dX5_bestOver_67 rfl 4 rfl ?_
          refine x_icmp_le C (tgt := 77) dX5_bestOver_68 (by decide) (fun hc16 => ?_) (fun hc16 => ?_)
          · rw [if_pos hc16] at h
            refine x_sub [2, 3, 4, 6, 1] rfl ?_
            exact hJ13 a20.1 a20.2.1 _ h hA4 hB5
          · rw [if_neg hc16] at h
            refine x_sub [2, 6, 1, 0] rfl ?_
            exact hJ14 _ h hA4 hB5
      · rw [if_neg hc11] at h
        refine x_goto C (tgt := 80) dX5_bestOver_51 (by decide) ?_
        refine x_sub [1, 2, 3, 4, 5] rfl ?_
        exact hJ10 a20.1 a20.2.1 a20.2.2.1 q2.2 _ h hA4 hB5
  · show X p l e R s m args below meth c 7 cy D B 0 0 Q 86 [(1, .int b20.1)] [] b20.2 μ ω
    refine x_iload_n C dX5_bestOver_86 rfl 0 rfl ?_
    cases h
    exact hret _ _ dX5_bestOver_87 rfl
def jX5_remember_41 (q1 : Mem) (t2 : Int32) : Option (Mem) := (some (wI (wI q1 2 0 0 t2) 3 0 0 (if (10 : Int32) < ((rI (wI q1 2 0 0 t2) 3 0 0) + (1 : Int32)) then (10 : Int32) else ((rI (wI q1 2 0 0 t2) 3 0 0) + (1 : Int32)))))
def fX5_remember (σ : Mem) : Option (Mem) := (gd (inb (rI σ 2 0 0) 10) (gd (rP σ 0 < 12) ((fX1_copy ((rI σ 2 0 0).toNatClampNeg + 2) (rP σ 0) σ).bind fun q1 => (if ¬ (rI q1 2 0 0) = ((10 : Int32) - (1 : Int32)) then (jX5_remember_41 q1 ((rI q1 2 0 0) + (1 : Int32))) else (jX5_remember_41 q1 (0 : Int32))))))
set_option maxHeartbeats 4000000 in
set_option maxRecDepth 100000 in
theorem okX5_remember (l : Launch) (cy : Nat → ClassId) (D : va_G) (B : Nat) (ek : EK) (σ μ ω : Mem) (res : Mem) (h : fX5_remember σ = some res) : CT l cy D B ek yX5_remember cX5_remember 1 none ({ frames := 3, cells := 0, slots := 0, locals := 69 } : Room) [.ref (B + oHB)] σ μ ω none res μ ω := by
  refine met_X (own := "HostelBeds") (by decide) rfl (Nat.le_of_ble_eq_true rfl) ?_
  intro p e s m args below meth c C hrT hlk
  have hret : ∀ (pc9 : Nat) (lcs9 : List (Nat × Value)), decode cX5_remember pc9 = .ok (.return_, 1) → X p l e ({ frames := 3, cells := 0, slots := 0, locals := 69 } : Room) s m args below meth c 1 cy D B 0 0 (MQ below (QR cy D B none res μ ω) args s 0 0 (aB B)) pc9 lcs9 [] res μ ω := fun _ _ hd => x_vret C hrT hlk hd
  generalize (MQ below (QR cy D B none res μ ω) args s 0 0 (aB B)) = Q at hret ⊢
  obtain ⟨R, hR9⟩ : ∃ R : Room, R = ({ frames := 3, cells := 0, slots := 0, locals := 69 } : Room) := ⟨_, rfl⟩
  rw [← hR9] at hret ⊢
  unfold fX5_remember at h
  show X p l e R s m args below meth c 1 cy D B 0 0 Q 0 [(0, .ref (B + oHB))] [] σ μ ω
  refine x_aload_n C dX5_remember_0 rfl 0 rfl ?_
  refine x_get C (C1 := "HostelBeds") (T := TX5) (N := 12) (ci := 5) inXg5 _ (c_HB) rfl 6 (by decide) (lw_g_mk tw_293 rfl) rfl dX5_remember_1 ?_
  refine x_aload_n C dX5_remember_4 rfl 0 rfl ?_
  refine x_get C (C1 := "HostelBeds") (T := TX5) (N := 12) (ci := 5) inXg5 _ (c_HB) rfl 7 (by decide) (lw_g_mk tw_294 rfl) rfl dX5_remember_5 ?_
  obtain ⟨hg1, h⟩ := gd_some h
  refine x_aldq C _ 7 (C1 := "HostelBeds$Hostel") (c_Past) rfl hg1 rfl dX5_remember_8 ?_
  refine x_aload_n C dX5_remember_9 rfl 0 rfl ?_
  refine x_get C (C1 := "HostelBeds") (T := TX5) (N := 12) (ci := 5) inXg5 _ (c_HB) rfl 2 (by decide) (lw_g_mk tw_289 rfl) rfl dX5_remember_10 ?_
  obtain ⟨hg2, h⟩ := gd_some h
  obtain ⟨q1, hk3, h⟩ := Option.bind_eq_some_iff.mp h
  refine x_callV C (As := [.ref (B + oHo (rP σ 0))]) (rest := []) (lw_g_mk tw_363 rfl) (lw_g_mk tw_364 rfl) (c_Ho (past_lt hg1)) (C1 := "HostelBeds$Hostel") (T := TX1) (N := 12) (ci := 1) rfl (okX1_copy l cy D B ek ((rI σ 2 0 0).toNatClampNeg + 2) (rP σ 0) σ μ ω (past_lt hg1) hg2 _ hk3) rfl rfl (by rw [hR9]; decide) (lw_g_mk tw_365 rfl) (lw_g_mk tw_3 rfl) (by decide) rfl (lw_g_mk tw_362 rfl) rfl (Nat.le_of_ble_eq_true rfl) dX5_remember_13 (by rw [hR9]; decide) ?_
  refine x_aload_n C dX5_remember_16 rfl 0 rfl ?_
  refine x_aload_n C dX5_remember_17 rfl 0 rfl ?_
  refine x_get C (C1 := "HostelBeds") (T := TX5) (N := 12) (ci := 5) inXg5 _ (c_HB) rfl 7 (by decide) (lw_g_mk tw_294 rfl) rfl dX5_remember_18 ?_
  refine x_aload_n C dX5_remember_21 rfl 0 rfl ?_
  refine x_get C (C1 := "HostelBeds") (T := TX5) (N := 12) (ci := 5) inXg5 _ (c_HB) rfl 6 (by decide) (lw_g_mk tw_293 rfl) rfl dX5_remember_22 ?_
  refine x_alen C _ 7 (c_Past) rfl (v := 10) rfl dX5_remember_25 ?_
  refine x_iconst C (v := 1) dX5_remember_26 (by decide) ?_
  refine x_isub C dX5_remember_27 ?_
  have hJ4 : ∀ (t2 : Int32) (r9 : Mem), jX5_remember_41 q1 t2 = some r9 → (∀ (pc9 : Nat) (lcs9 : List (Nat × Value)), decode cX5_remember pc9 = .ok (.return_, 1) → X p l e R s m args below meth c 1 cy D B 0 0 Q pc9 lcs9 [] r9 μ ω) → X p l e R s m args below meth c 1 cy D B 0 0 Q 41 [(0, .ref (B + oHB))] [.int t2, .ref (B + oHB)] q1 μ ω := by
    intro t2 res9 h hret
    unfold jX5_remember_41 at h
    refine x_put C (C1 := "HostelBeds") (T := TX5) (N := 12) (ci := 5) inXg5 tyX5 tyX5_ok nmX5 _ (c_HB) rfl 7 (by decide) (lw_g_mk tw_294 rfl) rfl rfl rfl rfl (Nat.le_of_ble_eq_true rfl) dX5_remember_41 (s_HB_pastNext) ?_
    refine x_aload_n C dX5_remember_44 rfl 0 rfl ?_
    refine x_aload_n C dX5_remember_45 rfl 0 rfl ?_
    refine x_get C (C1 := "HostelBeds") (T := TX5) (N := 12) (ci := 5) inXg5 _ (c_HB) rfl 8 (by decide) (lw_g_mk tw_295 rfl) rfl dX5_remember_46 ?_
    refine x_iconst C (v := 1) dX5_remember_49 (by decide) ?_
    refine x_iadd C dX5_remember_50 ?_
    refine x_aload_n C dX5_remember_51 rfl 0 rfl ?_
    refine x_get C (C1 := "HostelBeds") (T := TX5) (N := 12) (ci := 5) inXg5 _ (c_HB) rfl 6 (by decide) (lw_g_mk tw_293 rfl) rfl dX5_remember_52 ?_
    refine x_alen C _ 7 (c_Past) rfl (v := 10) rfl dX5_remember_55 ?_
    refine x_mmin C (lw_g_mk tw_1032 rfl) (lw_g_mk tw_406 rfl) (lw_g_mk tw_17 rfl) (lw_g_mk tw_407 rfl) (by rw [hR9]; decide) (by rw [hR9]; exact Nat.le_of_ble_eq_true rfl) (by rw [hR9]; decide) dX5_remember_56 ?_
    refine x_put C (C1 := "HostelBeds") (T := TX5) (N := 12) (ci := 5) inXg5 tyX5 tyX5_ok nmX5 _ (c_HB) rfl 8 (by decide) (lw_g_mk tw_295 rfl) rfl rfl rfl rfl (Nat.le_of_ble_eq_true rfl) dX5_remember_59 (s_HB_pastCount) ?_
    cases h
    exact hret _ _ dX5_remember_62
  refine x_icmp_ne C (tgt := 35) dX5_remember_28 (by decide) (fun hc5 => ?_) (fun hc5 => ?_)
  · rw [if_pos hc5] at h
    refine x_aload_n C dX5_remember_35 rfl 0 rfl ?_
    refine x_get C (C1 := "HostelBeds") (T := TX5) (N := 12) (ci := 5) inXg5 _ (c_HB) rfl 7 (by decide) (lw_g_mk tw_294 rfl) rfl dX5_remember_36 ?_
    refine x_iconst C (v := 1) dX5_remember_39 (by decide) ?_
    refine x_iadd C dX5_remember_40 ?_
    exact hJ4 ((rI q1 2 0 0) + (1 : Int32)) _ h hret
  · rw [if_neg hc5] at h
    refine x_iconst C (v := 0) dX5_remember_31 (by decide) ?_
    refine x_goto C (tgt := 41) dX5_remember_32 (by decide) ?_
    exact hJ4 (0 : Int32) _ h hret
def fX5_book (p1 : Int32) (p2 : Int32) (p3 : Int32) (p4 : Int32) (p5 : Int32) (p6 : Int32) (σ : Mem) : Option ((Int32 ⊕ Nat) × Mem) := ((fX5_checkGroup p1 p2 p3 p4 p5).bind fun q1 => Sum.elim (fun x2 => ((fX5_checkRange p6 (0 : Int32) (100 : Int32)).bind fun q4 => Sum.elim (fun x5 => (gd (rP σ 0 < 12) (if (rI σ 22 (rP σ 0) 0) < (16 : Int32) then ((fX5_remember σ).bind fun q7 => (gd (rP q7 0 < 12) (gd (inb (rI q7 22 (rP q7 0) 0) 17) ((fX0_fill (rP q7 0) ((rI q7 22 (rP q7 0) 0).toNatClampNeg) p1 p2 p3 p4 p5 p6 q7).bind fun q8 => (gd (rP q8 0 < 12) ((fX1_tellNext (rP q8 0) q8).bind fun q9 => (gd (rP q9 0 < 12) ((fX3_make 0 (rP q9 0) q9).bind fun q10 => (gd (rP q10 0 < 12) (some (.inl ((rI q10 22 (rP q10 0) 0) - (1 : Int32)), q10))))))))))) else (some (.inr 1, σ))))) (fun e6 => (some (.inr e6, σ))) q4)) (fun e3 => (some (.inr e3, σ))) q1)
set_option maxHeartbeats 4000000 in
set_option maxRecDepth 100000 in
theorem okX5_book (l : Launch) (hlf : l.stackTraces = false) (cy : Nat → ClassId) (D : va_G) (B : Nat) (ek : EK) (p1 : Int32) (p2 : Int32) (p3 : Int32) (p4 : Int32) (p5 : Int32) (p6 : Int32) (σ μ ω : Mem) (res : (Int32 ⊕ Nat) × Mem) (h : fX5_book p1 p2 p3 p4 p5 p6 σ = some res) : CTX l cy D B ek yX5_book cX5_book 7 (some .int) ({ frames := 8, cells := 7, slots := 42, locals := 166 } : Room) 7 42 [.ref (B + oHB), .int p1, .int p2, .int p3, .int p4, .int p5, .int p6] σ μ ω (Sum.map (fun x => some (Value.int x)) id res.1) res.2 μ ω := by
  refine met_XX (own := "HostelBeds") (by decide) rfl (Nat.le_of_ble_eq_true rfl) ?_
  intro p e s m args below meth c C hrT hlk htab
  have hret : ∀ (x9 : Int32), res.1 = .inl x9 → ∀ (cells9 slots9 pc9 : Nat) (lcs9 : List (Nat × Value)), decode cX5_book pc9 = .ok (.ireturn, 1) → narrow .int (.int x9) = .int x9 → cells9 ≤ 7 → slots9 ≤ 42 → X p l e ({ frames := 8, cells := 7, slots := 42, locals := 166 } : Room) s m args below meth c 7 cy D B cells9 slots9 (vx_MQ below (QX cy D B (Sum.map (fun x => some (Value.int x)) id res.1) res.2 μ ω) (XCX cy D B (Sum.map (fun x => some (Value.int x)) id res.1) res.2 μ ω) args s 7 42 (aB B)) pc9 lcs9 [.int x9] res.2 μ ω := fun x9 hx9 cells9 slots9 pc9 lcs9 hd hn h1 h2 => by rw [hx9]; exact x_zretX C hrT hlk hn hd h1 h2
  have hthr : ∀ (k9 : Nat), res.1 = .inr k9 → ∀ (cells9 slots9 pc9 : Nat) (lcs9 : List (Nat × Value)), (ThrowS "HostelBeds" cX5_book pc9 k9 ∨ ThrowSW "HostelBeds" cX5_book pc9 k9 ∨ ThrowN "HostelBeds" cX5_book pc9 k9) → cells9 + 1 ≤ 7 → slots9 + 6 ≤ 42 → X p l e ({ frames := 8, cells := 7, slots := 42, locals := 166 } : Room) s m args below meth c 7 cy D B cells9 slots9 (vx_MQ below (QX cy D B (Sum.map (fun x => some (Value.int x)) id res.1) res.2 μ ω) (XCX cy D B (Sum.map (fun x => some (Value.int x)) id res.1) res.2 μ ω) args s 7 42 (aB B)) pc9 lcs9 [] res.2 μ ω := fun k9 hx9 cells9 slots9 pc9 lcs9 ht h1 h2 => by
    rw [hx9]
    rcases ht with ht | ht | ht
    · exact x_throwS C hlf ht htab (Nat.le_of_ble_eq_true rfl) (Nat.le_of_ble_eq_true rfl) h1 h2 hlk h1 h2
    · exact x_throwSW C hlf ht htab (Nat.le_of_ble_eq_true rfl) (Nat.le_of_ble_eq_true rfl) h1 h2 hlk h1 h2
    · exact x_throwN C hlf ht htab (Nat.le_of_ble_eq_true rfl) (Nat.le_of_ble_eq_true rfl) h1 h2 hlk h1 h2
  have hout : ∀ (k9 : Nat), res.1 = .inr k9 → ∀ (cells9 slots9 pc9 : Nat) (lcs9 : List (Nat × Value)) (st9 : List Value), cells9 ≤ 7 → slots9 ≤ 42 → XO p l e ({ frames := 8, cells := 7, slots := 42, locals := 166 } : Room) s m args below meth c 7 cy D B cells9 slots9 (vx_MQ below (QX cy D B (Sum.map (fun x => some (Value.int x)) id res.1) res.2 μ ω) (XCX cy D B (Sum.map (fun x => some (Value.int x)) id res.1) res.2 μ ω) args s 7 42 (aB B)) pc9 lcs9 st9 res.2 μ ω k9 := fun k9 hx9 cells9 slots9 pc9 lcs9 st9 h1 h2 => by rw [hx9]; exact x_out C htab hlk h1 h2
  generalize (vx_MQ below (QX cy D B (Sum.map (fun x => some (Value.int x)) id res.1) res.2 μ ω) (XCX cy D B (Sum.map (fun x => some (Value.int x)) id res.1) res.2 μ ω) args s 7 42 (aB B)) = Q at hret hthr hout ⊢
  obtain ⟨R, hR9⟩ : ∃ R : Room, R = ({ frames := 8, cells := 7, slots := 42, locals := 166 } : Room) := ⟨_, rfl⟩
  rw [← hR9] at hret hthr hout ⊢
  unfold fX5_book at h
  show X p l e R s m args below meth c 7 cy D B 0 0 Q 0 [(0, .ref (B + oHB)), (1, .int p1), (2, .int p2), (3, .int p3), (4, .int p4), (5, .int p5), (6, .int p6)] [] σ μ ω
  refine x_iload_n C dX5_book_0 rfl 1 rfl ?_
  refine x_iload_n C dX5_book_1 rfl 2 rfl ?_
  refine x_iload_n C dX5_book_2 rfl 3 rfl ?_
  refine x_iload C dX5_book_3 4 rfl ?_
  refine x_iload C dX5_book_5 5 rfl ?_
  obtain ⟨q1, hk1, h⟩ := Option.bind_eq_some_iff.mp h
  refine x_callSX C (As := [.int p1, .int p2, .int p3, .int p4, .int p5]) (rest := []) (cells2 := 5) (slots2 := 30) (lw_g_mk tw_994 rfl) (okX5_checkGroup l hlf cy D B ek p1 p2 p3 p4 p5 σ μ ω _ hk1) rfl rfl (by rw [hR9]; decide) (lw_g_mk tw_995 rfl) (lw_g_mk tw_1 rfl) (by decide) rfl (lw_g_mk tw_993 rfl) rfl (Nat.le_of_ble_eq_true rfl) dX5_book_7 (by rw [hR9]; decide) rfl rfl (fun v2 hv3 => ?_) (fun k4 hv5 => ?_)
  · rcases q1 with x2 | e3
    · rw [Sum.elim_inl] at h
      have hv3 : (Sum.inl (none) : Option Value ⊕ Nat) = .inl v2 := hv3
      cases hv3
      refine x_iload C dX5_book_10 6 rfl ?_
      refine x_iconst C (v := 0) dX5_book_12 (by decide) ?_
      refine x_bipush C (v := 100) dX5_book_13 (by decide) ?_
      obtain ⟨q4, hk7, h⟩ := Option.bind_eq_some_iff.mp h
      refine x_callSX C (As := [.int p6, .int (0 : Int32), .int (100 : Int32)]) (rest := []) (cells2 := 6) (slots2 := 36) (lw_g_mk tw_997 rfl) (okX5_checkRange l hlf cy D B ek p6 (0 : Int32) (100 : Int32) σ μ ω _ hk7) rfl rfl (by rw [hR9]; decide) (lw_g_mk tw_998 rfl) (lw_g_mk tw_1 rfl) (by decide) rfl (lw_g_mk tw_996 rfl) rfl (Nat.le_of_ble_eq_true rfl) dX5_book_15 (by rw [hR9]; decide) rfl rfl (fun v8 hv9 => ?_) (fun k10 hv11 => ?_)
      · rcases q4 with x5 | e6
        · rw [Sum.elim_inl] at h
          have hv9 : (Sum.inl (none) : Option Value ⊕ Nat) = .inl v8 := hv9
          cases hv9
          refine x_aload_n C dX5_book_18 rfl 0 rfl ?_
          refine x_get C (C1 := "HostelBeds") (T := TX5) (N := 12) (ci := 5) inXg5 _ (c_HB) rfl 2 (by decide) (lw_g_mk tw_289 rfl) rfl dX5_book_19 ?_
          obtain ⟨hg13, h⟩ := gd_some h
          refine x_get C (C1 := "HostelBeds$Hostel") (T := TX1) (N := 12) (ci := 1) inXg1 _ (c_Ho hg13) rfl 4 (by decide) (lw_g_mk tw_200 rfl) rfl dX5_book_22 ?_
          refine x_bipush C (v := 16) dX5_book_25 (by decide) ?_
          refine x_icmp_lt C (tgt := 41) dX5_book_27 (by decide) (fun hc14 => ?_) (fun hc14 => ?_)
          · rw [if_pos hc14] at h
            refine x_aload_n C dX5_book_41 rfl 0 rfl ?_
            obtain ⟨q7, hk15, h⟩ := Option.bind_eq_some_iff.mp h
            refine x_callV C (As := []) (rest := []) (lw_g_mk tw_1030 rfl) (lw_g_mk tsel_11 rfl) (c_HB) (C1 := "HostelBeds") (T := TX5) (N := 12) (ci := 5) rfl (okX5_remember l cy D B ek σ μ ω _ hk15) rfl rfl (by rw [hR9]; decide) (lw_g_mk tw_1031 rfl) (lw_g_mk tw_1 rfl) (by decide) rfl (lw_g_mk tw_1028 rfl) rfl (Nat.le_of_ble_eq_true rfl) dX5_book_42 (by rw [hR9]; decide) ?_
            refine x_aload_n C dX5_book_45 rfl 0 rfl ?_
            refine x_get C (C1 := "HostelBeds") (T := TX5) (N := 12) (ci := 5) inXg5 _ (c_HB) rfl 2 (by decide) (lw_g_mk tw_289 rfl) rfl dX5_book_46 ?_
            obtain ⟨hg16, h⟩ := gd_some h
            refine x_get C (C1 := "HostelBeds$Hostel") (T := TX1) (N := 12) (ci := 1) inXg1 _ (c_Ho hg16) rfl 3 (by decide) (lw_g_mk tw_197 rfl) rfl dX5_book_49 ?_
            refine x_aload_n C dX5_book_52 rfl 0 rfl ?_
            refine x_get C (C1 := "HostelBeds") (T := TX5) (N := 12) (ci := 5) inXg5 _ (c_HB) rfl 2 (by decide) (lw_g_mk tw_289 rfl) rfl dX5_book_53 ?_
            refine x_get C (C1 := "HostelBeds$Hostel") (T := TX1) (N := 12) (ci := 1) inXg1 _ (c_Ho hg16) rfl 4 (by decide) (lw_g_mk tw_200 rfl) rfl dX5_book_56 ?_
            obtain ⟨hg17, h⟩ := gd_some h
            refine x_aldq C _ 6 (C1 := "HostelBeds$Booking") (c_Bks hg16) rfl hg17 rfl dX5_book_59 ?_
            refine x_iload_n C dX5_book_60 rfl 1 rfl ?_
            refine x_iload_n C dX5_book_61 rfl 2 rfl ?_
            refine x_iload_n C dX5_book_62 rfl 3 rfl ?_
            refine x_iload C dX5_book_63 4 rfl ?_
            refine x_iload C dX5_book_65 5 rfl ?_
            refine x_iload C dX5_book_67 6 rfl ?_
            obtain ⟨q8, hk18, h⟩ := Option.bind_eq_some_iff.mp h
            refine x_callV C (As := [.int p1, .int p2, .int p3, .int p4, .int p5, .int p6]) (rest := []) (lw_g_mk tw_375 rfl) (lw_g_mk tw_376 rfl) (c_Bk hg16 (inb_lt hg17)) (C1 := "HostelBeds$Booking") (T := TX0) (N := 11) (ci := 0) rfl (okX0_fill l cy D B ek (rP q7 0) ((rI q7 22 (rP q7 0) 0).toNatClampNeg) p1 p2 p3 p4 p5 p6 q7 μ ω hg16 (inb_lt hg17) _ hk18) rfl rfl (by rw [hR9]; decide) (lw_g_mk tw_377 rfl) (lw_g_mk tw_5 rfl) (by decide) rfl (lw_g_mk tw_1004 rfl) rfl (Nat.le_of_ble_eq_true rfl) dX5_book_69 (by rw [hR9]; decide) ?_
            refine x_aload_n C dX5_book_72 rfl 0 rfl ?_
            refine x_get C (C1 := "HostelBeds") (T := TX5) (N := 12) (ci := 5) inXg5 _ (c_HB) rfl 2 (by decide) (lw_g_mk tw_289 rfl) rfl dX5_book_73 ?_
            obtain ⟨hg19, h⟩ := gd_some h
            obtain ⟨q9, hk20, h⟩ := Option.bind_eq_some_iff.mp h
            refine x_callV C (As := []) (rest := []) (lw_g_mk tw_689 rfl) (lw_g_mk tw_690 rfl) (c_Ho hg19) (C1 := "HostelBeds$Hostel") (T := TX1) (N := 12) (ci := 1) rfl (okX1_tellNext l cy D B ek (rP q8 0) q8 μ ω hg19 _ hk20) rfl rfl (by rw [hR9]; decide) (lw_g_mk tw_691 rfl) (lw_g_mk tw_3 rfl) (by decide) rfl (lw_g_mk tw_1033 rfl) rfl (Nat.le_of_ble_eq_true rfl) dX5_book_76 (by rw [hR9]; decide) ?_
            refine x_aload_n C dX5_book_79 rfl 0 rfl ?_
            refine x_get C (C1 := "HostelBeds") (T := TX5) (N := 12) (ci := 5) inXg5 _ (c_HB) rfl 4 (by decide) (lw_g_mk tw_291 rfl) rfl dX5_book_80 ?_
            refine x_aload_n C dX5_book_83 rfl 0 rfl ?_
            refine x_get C (C1 := "HostelBeds") (T := TX5) (N := 12) (ci := 5) inXg5 _ (c_HB) rfl 2 (by decide) (lw_g_mk tw_289 rfl) rfl dX5_book_84 ?_
            obtain ⟨hg21, h⟩ := gd_some h
            obtain ⟨q10, hk22, h⟩ := Option.bind_eq_some_iff.mp h
            refine x_callV C (As := [.ref (B + oHo (rP q9 0))]) (rest := []) (lw_g_mk tw_413 rfl) (lw_g_mk tw_414 rfl) (c_Pl (by decide)) (C1 := "HostelBeds$Plan") (T := TX3) (N := 8) (ci := 3) rfl (okX3_make l cy D B ek 0 (rP q9 0) q9 μ ω (by decide) hg21 _ hk22) rfl rfl (by rw [hR9]; decide) (lw_g_mk tw_415 rfl) (lw_g_mk tw_6 rfl) (by decide) rfl (lw_g_mk tw_412 rfl) rfl (Nat.le_of_ble_eq_true rfl) dX5_book_87 (by rw [hR9]; decide) ?_
            refine x_aload_n C dX5_book_90 rfl 0 rfl ?_
            refine x_get C (C1 := "HostelBeds") (T := TX5) (N := 12) (ci := 5) inXg5 _ (c_HB) rfl 2 (by decide) (lw_g_mk tw_289 rfl) rfl dX5_book_91 ?_
            obtain ⟨hg23, h⟩ := gd_some h
            refine x_get C (C1 := "HostelBeds$Hostel") (T := TX1) (N := 12) (ci := 1) inXg1 _ (c_Ho hg23) rfl 4 (by decide) (lw_g_mk tw_200 rfl) rfl dX5_book_94 ?_
            refine x_iconst C (v := 1) dX5_book_97 (by decide) ?_
            refine x_isub C dX5_book_98 ?_
            cases h
            exact hret _ rfl _ _ _ _ dX5_book_99 rfl (by decide) (by decide)
          · rw [if_neg hc14] at h
            cases h
            exact hthr _ rfl _ _ _ _ (Or.inr (Or.inl ⟨55, 309, 59, "there are 16 bookings", dX5_book_30, dX5_book_33, dX5_book_34, dX5_book_37, dX5_book_40, lw_g_mk tw_477 rfl, lw_g_mk tw_11 rfl, (by decide +kernel), (by decide +kernel), (by decide +kernel), hat_1, hgood_1⟩)) (by decide) (by decide)
        · cases hv9
      · rcases q4 with x5 | e6
        · cases hv11
        · rw [Sum.elim_inr] at h
          have hv11 : (Sum.inr e6 : Option Value ⊕ Nat) = .inr k10 := hv11
          cases hv11
          cases h
          exact hout _ rfl _ _ _ _ _ (by decide) (by decide)
    · cases hv3
  · rcases q1 with x2 | e3
    · cases hv5
    · rw [Sum.elim_inr] at h
      have hv5 : (Sum.inr e3 : Option Value ⊕ Nat) = .inr k4 := hv5
      cases hv5
      cases h
      exact hout _ rfl _ _ _ _ _ (by decide) (by decide)
def fX5_cancel (p1 : Int32) (σ : Mem) : Option ((Int32 ⊕ Nat) × Mem) := ((fX5_checkBooking p1 σ).bind fun q1 => Sum.elim (fun x2 => (gd (rP σ 0 < 12) (gd (inb p1 17) (if ¬ (rI σ 49 (rP σ 0) p1.toNatClampNeg) = (2 : Int32) then ((fX5_remember σ).bind fun q4 => (gd (rP q4 0 < 12) ((fX1_drop (rP q4 0) p1 q4).bind fun q5 => (gd (rP q5 0 < 12) ((fX1_acceptWaiting (rP q5 0) q5).bind fun q6 => (gd (rP q6.2 0 < 12) ((fX3_make 0 (rP q6.2 0) q6.2).bind fun q7 => (some (.inl q6.1, q7))))))))) else (some (.inr 1, σ)))))) (fun e3 => (some (.inr e3, σ))) q1)
set_option maxHeartbeats 4000000 in
set_option maxRecDepth 100000 in
theorem okX5_cancel (l : Launch) (hlf : l.stackTraces = false) (cy : Nat → ClassId) (D : va_G) (B : Nat) (ek : EK) (p1 : Int32) (σ μ ω : Mem) (res : (Int32 ⊕ Nat) × Mem) (h : fX5_cancel p1 σ = some res) : CTX l cy D B ek yX5_cancel cX5_cancel 3 (some .int) ({ frames := 7, cells := 2, slots := 12, locals := 141 } : Room) 2 12 [.ref (B + oHB), .int p1] σ μ ω (Sum.map (fun x => some (Value.int x)) id res.1) res.2 μ ω := by
  refine met_XX (own := "HostelBeds") (by decide) rfl (Nat.le_of_ble_eq_true rfl) ?_
  intro p e s m args below meth c C hrT hlk htab
  have hret : ∀ (x9 : Int32), res.1 = .inl x9 → ∀ (cells9 slots9 pc9 : Nat) (lcs9 : List (Nat × Value)), decode cX5_cancel pc9 = .ok (.ireturn, 1) → narrow .int (.int x9) = .int x9 → cells9 ≤ 2 → slots9 ≤ 12 → X p l e ({ frames := 7, cells := 2, slots := 12, locals := 141 } : Room) s m args below meth c 3 cy D B cells9 slots9 (vx_MQ below (QX cy D B (Sum.map (fun x => some (Value.int x)) id res.1) res.2 μ ω) (XCX cy D B (Sum.map (fun x => some (Value.int x)) id res.1) res.2 μ ω) args s 2 12 (aB B)) pc9 lcs9 [.int x9] res.2 μ ω := fun x9 hx9 cells9 slots9 pc9 lcs9 hd hn h1 h2 => by rw [hx9]; exact x_zretX C hrT hlk hn hd h1 h2
  have hthr : ∀ (k9 : Nat), res.1 = .inr k9 → ∀ (cells9 slots9 pc9 : Nat) (lcs9 : List (Nat × Value)), (ThrowS "HostelBeds" cX5_cancel pc9 k9 ∨ ThrowSW "HostelBeds" cX5_cancel pc9 k9 ∨ ThrowN "HostelBeds" cX5_cancel pc9 k9) → cells9 + 1 ≤ 2 → slots9 + 6 ≤ 12 → X p l e ({ frames := 7, cells := 2, slots := 12, locals := 141 } : Room) s m args below meth c 3 cy D B cells9 slots9 (vx_MQ below (QX cy D B (Sum.map (fun x => some (Value.int x)) id res.1) res.2 μ ω) (XCX cy D B (Sum.map (fun x => some (Value.int x)) id res.1) res.2 μ ω) args s 2 12 (aB B)) pc9 lcs9 [] res.2 μ ω := fun k9 hx9 cells9 slots9 pc9 lcs9 ht h1 h2 => by
    rw [hx9]
    rcases ht with ht | ht | ht
    · exact x_throwS C hlf ht htab (Nat.le_of_ble_eq_true rfl) (Nat.le_of_ble_eq_true rfl) h1 h2 hlk h1 h2
    · exact x_throwSW C hlf ht htab (Nat.le_of_ble_eq_true rfl) (Nat.le_of_ble_eq_true rfl) h1 h2 hlk h1 h2
    · exact x_throwN C hlf ht htab (Nat.le_of_ble_eq_true rfl) (Nat.le_of_ble_eq_true rfl) h1 h2 hlk h1 h2
  have hout : ∀ (k9 : Nat), res.1 = .inr k9 → ∀ (cells9 slots9 pc9 : Nat) (lcs9 : List (Nat × Value)) (st9 : List Value), cells9 ≤ 2 → slots9 ≤ 12 → XO p l e ({ frames := 7, cells := 2, slots := 12, locals := 141 } : Room) s m args below meth c 3 cy D B cells9 slots9 (vx_MQ below (QX cy D B (Sum.map (fun x => some (Value.int x)) id res.1) res.2 μ ω) (XCX cy D B (Sum.map (fun x => some (Value.int x)) id res.1) res.2 μ ω) args s 2 12 (aB B)) pc9 lcs9 st9 res.2 μ ω k9 := fun k9 hx9 cells9 slots9 pc9 lcs9 st9 h1 h2 => by rw [hx9]; exact x_out C htab hlk h1 h2
  generalize (vx_MQ below (QX cy D B (Sum.map (fun x => some (Value.int x)) id res.1) res.2 μ ω) (XCX cy D B (Sum.map (fun x => some (Value.int x)) id res.1) res.2 μ ω) args s 2 12 (aB B)) = Q at hret hthr hout ⊢
  obtain ⟨R, hR9⟩ : ∃ R : Room, R = ({ frames := 7, cells := 2, slots := 12, locals := 141 } : Room) := ⟨_, rfl⟩
  rw [← hR9] at hret hthr hout ⊢
  unfold fX5_cancel at h
  show X p l e R s m args below meth c 3 cy D B 0 0 Q 0 [(0, .ref (B + oHB)), (1, .int p1)] [] σ μ ω
  refine x_aload_n C dX5_cancel_0 rfl 0 rfl ?_
  refine x_iload_n C dX5_cancel_1 rfl 1 rfl ?_
  obtain ⟨q1, hk1, h⟩ := Option.bind_eq_some_iff.mp h
  refine x_callVX C (As := [.int p1]) (rest := []) (cells2 := 1) (slots2 := 6) (lw_g_mk tw_788 rfl) (lw_g_mk tsel_4 rfl) (c_HB) (C1 := "HostelBeds") (T := TX5) (N := 12) (ci := 5) rfl (okX5_checkBooking l hlf cy D B ek p1 σ μ ω _ hk1) rfl rfl (by rw [hR9]; decide) (lw_g_mk tw_789 rfl) (lw_g_mk tw_1 rfl) (by decide) rfl (lw_g_mk tw_786 rfl) rfl (Nat.le_of_ble_eq_true rfl) dX5_cancel_2 (by rw [hR9]; decide) rfl rfl (fun v2 hv3 => ?_) (fun k4 hv5 => ?_)
  · rcases q1 with x2 | e3
    · rw [Sum.elim_inl] at h
      have hv3 : (Sum.inl (none) : Option Value ⊕ Nat) = .inl v2 := hv3
      cases hv3
      refine x_aload_n C dX5_cancel_5 rfl 0 rfl ?_
      refine x_get C (C1 := "HostelBeds") (T := TX5) (N := 12) (ci := 5) inXg5 _ (c_HB) rfl 2 (by decide) (lw_g_mk tw_289 rfl) rfl dX5_cancel_6 ?_
      obtain ⟨hg7, h⟩ := gd_some h
      refine x_get C (C1 := "HostelBeds$Hostel") (T := TX1) (N := 12) (ci := 1) inXg1 _ (c_Ho hg7) rfl 3 (by decide) (lw_g_mk tw_197 rfl) rfl dX5_cancel_9 ?_
      refine x_iload_n C dX5_cancel_12 rfl 1 rfl ?_
      obtain ⟨hg8, h⟩ := gd_some h
      refine x_aldq C _ 6 (C1 := "HostelBeds$Booking") (c_Bks hg7) rfl hg8 rfl dX5_cancel_13 ?_
      refine x_get C (C1 := "HostelBeds$Booking") (T := TX0) (N := 11) (ci := 0) inXg0 _ (c_Bk hg7 (inb_lt hg8)) rfl 10 (by decide) (lw_g_mk tw_151 rfl) rfl dX5_cancel_14 ?_
      refine x_iconst C (v := 2) dX5_cancel_17 (by decide) ?_
      refine x_icmp_ne C (tgt := 32) dX5_cancel_18 (by decide) (fun hc9 => ?_) (fun hc9 => ?_)
      · rw [if_pos hc9] at h
        refine x_aload_n C dX5_cancel_32 rfl 0 rfl ?_
        obtain ⟨q4, hk10, h⟩ := Option.bind_eq_some_iff.mp h
        refine x_callV C (As := []) (rest := []) (lw_g_mk tw_1030 rfl) (lw_g_mk tsel_11 rfl) (c_HB) (C1 := "HostelBeds") (T := TX5) (N := 12) (ci := 5) rfl (okX5_remember l cy D B ek σ μ ω _ hk10) rfl rfl (by rw [hR9]; decide) (lw_g_mk tw_1031 rfl) (lw_g_mk tw_1 rfl) (by decide) rfl (lw_g_mk tw_1028 rfl) rfl (Nat.le_of_ble_eq_true rfl) dX5_cancel_33 (by rw [hR9]; decide) ?_
        refine x_aload_n C dX5_cancel_36 rfl 0 rfl ?_
        refine x_get C (C1 := "HostelBeds") (T := TX5) (N := 12) (ci := 5) inXg5 _ (c_HB) rfl 2 (by decide) (lw_g_mk tw_289 rfl) rfl dX5_cancel_37 ?_
        obtain ⟨hg11, h⟩ := gd_some h
        refine x_iload_n C dX5_cancel_40 rfl 1 rfl ?_
        obtain ⟨q5, hk12, h⟩ := Option.bind_eq_some_iff.mp h
        refine x_callV C (As := [.int p1]) (rest := []) (lw_g_mk tw_702 rfl) (lw_g_mk tw_703 rfl) (c_Ho hg11) (C1 := "HostelBeds$Hostel") (T := TX1) (N := 12) (ci := 1) rfl (okX1_drop l cy D B ek (rP q4 0) p1 q4 μ ω hg11 _ hk12) rfl rfl (by rw [hR9]; decide) (lw_g_mk tw_704 rfl) (lw_g_mk tw_3 rfl) (by decide) rfl (lw_g_mk tw_1019 rfl) rfl (Nat.le_of_ble_eq_true rfl) dX5_cancel_41 (by rw [hR9]; decide) ?_
        refine x_aload_n C dX5_cancel_44 rfl 0 rfl ?_
        refine x_get C (C1 := "HostelBeds") (T := TX5) (N := 12) (ci := 5) inXg5 _ (c_HB) rfl 2 (by decide) (lw_g_mk tw_289 rfl) rfl dX5_cancel_45 ?_
        obtain ⟨hg13, h⟩ := gd_some h
        obtain ⟨q6, hk14, h⟩ := Option.bind_eq_some_iff.mp h
        refine x_callV C (As := []) (rest := []) (lw_g_mk tw_706 rfl) (lw_g_mk tw_707 rfl) (c_Ho hg13) (C1 := "HostelBeds$Hostel") (T := TX1) (N := 12) (ci := 1) rfl (okX1_acceptWaiting l cy D B ek (rP q5 0) q5 μ ω hg13 _ hk14) rfl rfl (by rw [hR9]; decide) (lw_g_mk tw_708 rfl) (lw_g_mk tw_3 rfl) (by decide) rfl (lw_g_mk tw_1042 rfl) rfl (Nat.le_of_ble_eq_true rfl) dX5_cancel_48 (by rw [hR9]; decide) ?_
        refine x_istore_n C [(2, .int q6.1), (0, .ref (B + oHB)), (1, .int p1)] dX5_cancel_51 rfl (by decide) rfl ?_
        refine x_aload_n C dX5_cancel_52 rfl 1 rfl ?_
        refine x_get C (C1 := "HostelBeds") (T := TX5) (N := 12) (ci := 5) inXg5 _ (c_HB) rfl 4 (by decide) (lw_g_mk tw_291 rfl) rfl dX5_cancel_53 ?_
        refine x_aload_n C dX5_cancel_56 rfl 1 rfl ?_
        refine x_get C (C1 := "HostelBeds") (T := TX5) (N := 12) (ci := 5) inXg5 _ (c_HB) rfl 2 (by decide) (lw_g_mk tw_289 rfl) rfl dX5_cancel_57 ?_
        obtain ⟨hg15, h⟩ := gd_some h
        obtain ⟨q7, hk16, h⟩ := Option.bind_eq_some_iff.mp h
        refine x_callV C (As := [.ref (B + oHo (rP q6.2 0))]) (rest := []) (lw_g_mk tw_413 rfl) (lw_g_mk tw_414 rfl) (c_Pl (by decide)) (C1 := "HostelBeds$Plan") (T := TX3) (N := 8) (ci := 3) rfl (okX3_make l cy D B ek 0 (rP q6.2 0) q6.2 μ ω (by decide) hg15 _ hk16) rfl rfl (by rw [hR9]; decide) (lw_g_mk tw_415 rfl) (lw_g_mk tw_6 rfl) (by decide) rfl (lw_g_mk tw_412 rfl) rfl (Nat.le_of_ble_eq_true rfl) dX5_cancel_60 (by rw [hR9]; decide) ?_
        refine x_iload_n C dX5_cancel_63 rfl 0 rfl ?_
        cases h
        exact hret _ rfl _ _ _ _ dX5_cancel_64 rfl (by decide) (by decide)
      · rw [if_neg hc9] at h
        cases h
        exact hthr _ rfl _ _ _ _ (Or.inr (Or.inl ⟨55, 317, 59, "the booking is cancelled already", dX5_cancel_21, dX5_cancel_24, dX5_cancel_25, dX5_cancel_28, dX5_cancel_31, lw_g_mk tw_477 rfl, lw_g_mk tw_11 rfl, (by decide +kernel), (by decide +kernel), (by decide +kernel), hat_1, hgood_1⟩)) (by decide) (by decide)
    · cases hv3
  · rcases q1 with x2 | e3
    · cases hv5
    · rw [Sum.elim_inr] at h
      have hv5 : (Sum.inr e3 : Option Value ⊕ Nat) = .inr k4 := hv5
      cases hv5
      cases h
      exact hout _ rfl _ _ _ _ _ (by decide) (by decide)
def fX5_setAbsent (p1 : Int32) (p2 : Int32) (σ : Mem) : Option ((Int32 ⊕ Nat) × Mem) := ((fX5_checkBooking p1 σ).bind fun q1 => Sum.elim (fun x2 => ((fX5_remember σ).bind fun q4 => (gd (rP q4 0 < 12) (gd (inb p1 17) (gd (p2 = 0 ∨ p2 = 1) (gd (rP (wI q4 48 (rP q4 0) p1.toNatClampNeg p2) 0 < 12) ((fX3_make 0 (rP (wI q4 48 (rP q4 0) p1.toNatClampNeg p2) 0) (wI q4 48 (rP q4 0) p1.toNatClampNeg p2)).bind fun q5 => (gd ((rI q4 48 (rP q4 0) p1.toNatClampNeg) = 0 ∨ (rI q4 48 (rP q4 0) p1.toNatClampNeg) = 1) (some (.inl (rI q4 48 (rP q4 0) p1.toNatClampNeg), q5)))))))))) (fun e3 => (some (.inr e3, σ))) q1)
set_option maxHeartbeats 4000000 in
set_option maxRecDepth 100000 in
theorem okX5_setAbsent (l : Launch) (hlf : l.stackTraces = false) (cy : Nat → ClassId) (D : va_G) (B : Nat) (ek : EK) (p1 : Int32) (p2 : Int32) (σ μ ω : Mem) (res : (Int32 ⊕ Nat) × Mem) (h : fX5_setAbsent p1 p2 σ = some res) : CTX l cy D B ek yX5_setAbsent cX5_setAbsent 4 (some .boolean) ({ frames := 7, cells := 1, slots := 6, locals := 141 } : Room) 1 6 [.ref (B + oHB), .int p1, .int p2] σ μ ω (Sum.map (fun x => some (Value.int x)) id res.1) res.2 μ ω := by
  refine met_XX (own := "HostelBeds") (by decide) rfl (Nat.le_of_ble_eq_true rfl) ?_
  intro p e s m args below meth c C hrT hlk htab
  have hret : ∀ (x9 : Int32), res.1 = .inl x9 → ∀ (cells9 slots9 pc9 : Nat) (lcs9 : List (Nat × Value)), decode cX5_setAbsent pc9 = .ok (.ireturn, 1) → narrow .boolean (.int x9) = .int x9 → cells9 ≤ 1 → slots9 ≤ 6 → X p l e ({ frames := 7, cells := 1, slots := 6, locals := 141 } : Room) s m args below meth c 4 cy D B cells9 slots9 (vx_MQ below (QX cy D B (Sum.map (fun x => some (Value.int x)) id res.1) res.2 μ ω) (XCX cy D B (Sum.map (fun x => some (Value.int x)) id res.1) res.2 μ ω) args s 1 6 (aB B)) pc9 lcs9 [.int x9] res.2 μ ω := fun x9 hx9 cells9 slots9 pc9 lcs9 hd hn h1 h2 => by rw [hx9]; exact x_zretX C hrT hlk hn hd h1 h2
  have hout : ∀ (k9 : Nat), res.1 = .inr k9 → ∀ (cells9 slots9 pc9 : Nat) (lcs9 : List (Nat × Value)) (st9 : List Value), cells9 ≤ 1 → slots9 ≤ 6 → XO p l e ({ frames := 7, cells := 1, slots := 6, locals := 141 } : Room) s m args below meth c 4 cy D B cells9 slots9 (vx_MQ below (QX cy D B (Sum.map (fun x => some (Value.int x)) id res.1) res.2 μ ω) (XCX cy D B (Sum.map (fun x => some (Value.int x)) id res.1) res.2 μ ω) args s 1 6 (aB B)) pc9 lcs9 st9 res.2 μ ω k9 := fun k9 hx9 cells9 slots9 pc9 lcs9 st9 h1 h2 => by rw [hx9]; exact x_out C htab hlk h1 h2
  have hthr : True := trivial
  generalize (vx_MQ below (QX cy D B (Sum.map (fun x => some (Value.int x)) id res.1) res.2 μ ω) (XCX cy D B (Sum.map (fun x => some (Value.int x)) id res.1) res.2 μ ω) args s 1 6 (aB B)) = Q at hret hthr hout ⊢
  obtain ⟨R, hR9⟩ : ∃ R : Room, R = ({ frames := 7, cells := 1, slots := 6, locals := 141 } : Room) := ⟨_, rfl⟩
  rw [← hR9] at hret hout ⊢
  unfold fX5_setAbsent at h
  show X p l e R s m args below meth c 4 cy D B 0 0 Q 0 [(0, .ref (B + oHB)), (1, .int p1), (2, .int p2)] [] σ μ ω
  refine x_aload_n C dX5_setAbsent_0 rfl 0 rfl ?_
  refine x_iload_n C dX5_setAbsent_1 rfl 1 rfl ?_
  obtain ⟨q1, hk1, h⟩ := Option.bind_eq_some_iff.mp h
  refine x_callVX C (As := [.int p1]) (rest := []) (cells2 := 1) (slots2 := 6) (lw_g_mk tw_788 rfl) (lw_g_mk tsel_4 rfl) (c_HB) (C1 := "HostelBeds") (T := TX5) (N := 12) (ci := 5) rfl (okX5_checkBooking l hlf cy D B ek p1 σ μ ω _ hk1) rfl rfl (by rw [hR9]; decide) (lw_g_mk tw_789 rfl) (lw_g_mk tw_1 rfl) (by decide) rfl (lw_g_mk tw_786 rfl) rfl (Nat.le_of_ble_eq_true rfl) dX5_setAbsent_2 (by rw [hR9]; decide) rfl rfl (fun v2 hv3 => ?_) (fun k4 hv5 => ?_)
  · rcases q1 with x2 | e3
    · rw [Sum.elim_inl] at h
      have hv3 : (Sum.inl (none) : Option Value ⊕ Nat) = .inl v2 := hv3
      cases hv3
      refine x_aload_n C dX5_setAbsent_5 rfl 0 rfl ?_
      obtain ⟨q4, hk7, h⟩ := Option.bind_eq_some_iff.mp h
      refine x_callV C (As := []) (rest := []) (lw_g_mk tw_1030 rfl) (lw_g_mk tsel_11 rfl) (c_HB) (C1 := "HostelBeds") (T := TX5) (N := 12) (ci := 5) rfl (okX5_remember l cy D B ek σ μ ω _ hk7) rfl rfl (by rw [hR9]; decide) (lw_g_mk tw_1031 rfl) (lw_g_mk tw_1 rfl) (by decide) rfl (lw_g_mk tw_1028 rfl) rfl (Nat.le_of_ble_eq_true rfl) dX5_setAbsent_6 (by rw [hR9]; decide) ?_
      refine x_aload_n C dX5_setAbsent_9 rfl 0 rfl ?_
      refine x_get C (C1 := "HostelBeds") (T := TX5) (N := 12) (ci := 5) inXg5 _ (c_HB) rfl 2 (by decide) (lw_g_mk tw_289 rfl) rfl dX5_setAbsent_10 ?_
      obtain ⟨hg8, h⟩ := gd_some h
      refine x_get C (C1 := "HostelBeds$Hostel") (T := TX1) (N := 12) (ci := 1) inXg1 _ (c_Ho hg8) rfl 3 (by decide) (lw_g_mk tw_197 rfl) rfl dX5_setAbsent_13 ?_
      refine x_iload_n C dX5_setAbsent_16 rfl 1 rfl ?_
      obtain ⟨hg9, h⟩ := gd_some h
      refine x_aldq C _ 6 (C1 := "HostelBeds$Booking") (c_Bks hg8) rfl hg9 rfl dX5_setAbsent_17 ?_
      refine x_get C (C1 := "HostelBeds$Booking") (T := TX0) (N := 11) (ci := 0) inXg0 _ (c_Bk hg8 (inb_lt hg9)) rfl 9 (by decide) (lw_g_mk tw_146 rfl) rfl dX5_setAbsent_18 ?_
      refine x_istore_n C [(3, .int (rI q4 48 (rP q4 0) p1.toNatClampNeg)), (0, .ref (B + oHB)), (1, .int p1), (2, .int p2)] dX5_setAbsent_21 rfl (by decide) rfl ?_
      refine x_aload_n C dX5_setAbsent_22 rfl 1 rfl ?_
      refine x_get C (C1 := "HostelBeds") (T := TX5) (N := 12) (ci := 5) inXg5 _ (c_HB) rfl 2 (by decide) (lw_g_mk tw_289 rfl) rfl dX5_setAbsent_23 ?_
      refine x_get C (C1 := "HostelBeds$Hostel") (T := TX1) (N := 12) (ci := 1) inXg1 _ (c_Ho hg8) rfl 3 (by decide) (lw_g_mk tw_197 rfl) rfl dX5_setAbsent_26 ?_
      refine x_iload_n C dX5_setAbsent_29 rfl 2 rfl ?_
      refine x_aldq C _ 6 (C1 := "HostelBeds$Booking") (c_Bks hg8) rfl hg9 rfl dX5_setAbsent_30 ?_
      refine x_iload_n C dX5_setAbsent_31 rfl 3 rfl ?_
      obtain ⟨hg10, h⟩ := gd_some h
      refine x_put C (C1 := "HostelBeds$Booking") (T := TX0) (N := 11) (ci := 0) inXg0 tyX0 tyX0_ok nmX0 _ (c_Bk hg8 (inb_lt hg9)) rfl 9 (by decide) (lw_g_mk tw_146 rfl) rfl rfl (nar_Z hg10) (fit_Z hg10) (Nat.le_of_ble_eq_true rfl) dX5_setAbsent_32 (s_Bk_absent hg8 (inb_lt hg9)) ?_
      refine x_aload_n C dX5_setAbsent_35 rfl 1 rfl ?_
      refine x_get C (C1 := "HostelBeds") (T := TX5) (N := 12) (ci := 5) inXg5 _ (c_HB) rfl 4 (by decide) (lw_g_mk tw_291 rfl) rfl dX5_setAbsent_36 ?_
      refine x_aload_n C dX5_setAbsent_39 rfl 1 rfl ?_
      refine x_get C (C1 := "HostelBeds") (T := TX5) (N := 12) (ci := 5) inXg5 _ (c_HB) rfl 2 (by decide) (lw_g_mk tw_289 rfl) rfl dX5_setAbsent_40 ?_
      obtain ⟨hg11, h⟩ := gd_some h
      obtain ⟨q5, hk12, h⟩ := Option.bind_eq_some_iff.mp h
      refine x_callV C (As := [.ref (B + oHo (rP (wI q4 48 (rP q4 0) p1.toNatClampNeg p2) 0))]) (rest := []) (lw_g_mk tw_413 rfl) (lw_g_mk tw_414 rfl) (c_Pl (by decide)) (C1 := "HostelBeds$Plan") (T := TX3) (N := 8) (ci := 3) rfl (okX3_make l cy D B ek 0 (rP (wI q4 48 (rP q4 0) p1.toNatClampNeg p2) 0) (wI q4 48 (rP q4 0) p1.toNatClampNeg p2) μ ω (by decide) hg11 _ hk12) rfl rfl (by rw [hR9]; decide) (lw_g_mk tw_415 rfl) (lw_g_mk tw_6 rfl) (by decide) rfl (lw_g_mk tw_412 rfl) rfl (Nat.le_of_ble_eq_true rfl) dX5_setAbsent_43 (by rw [hR9]; decide) ?_
      refine x_iload_n C dX5_setAbsent_46 rfl 0 rfl ?_
      obtain ⟨hg13, h⟩ := gd_some h
      cases h
      exact hret _ rfl _ _ _ _ dX5_setAbsent_47 (nar_Z hg13) (by decide) (by decide)
    · cases hv3
  · rcases q1 with x2 | e3
    · cases hv5
    · rw [Sum.elim_inr] at h
      have hv5 : (Sum.inr e3 : Option Value ⊕ Nat) = .inr k4 := hv5
      cases hv5
      cases h
      exact hout _ rfl _ _ _ _ _ (by decide) (by decide)
def fX5_setTogether (p1 : Int32) (p2 : Int32) (σ : Mem) : Option ((Int32 ⊕ Nat) × Mem) := ((fX5_checkBooking p1 σ).bind fun q1 => Sum.elim (fun x2 => ((fX5_remember σ).bind fun q4 => (gd (rP q4 0 < 12) (gd (inb p1 17) (gd (p2 = 0 ∨ p2 = 1) (gd (rP (wI q4 47 (rP q4 0) p1.toNatClampNeg p2) 0 < 12) ((fX3_make 0 (rP (wI q4 47 (rP q4 0) p1.toNatClampNeg p2) 0) (wI q4 47 (rP q4 0) p1.toNatClampNeg p2)).bind fun q5 => (gd ((rI q4 47 (rP q4 0) p1.toNatClampNeg) = 0 ∨ (rI q4 47 (rP q4 0) p1.toNatClampNeg) = 1) (some (.inl (rI q4 47 (rP q4 0) p1.toNatClampNeg), q5)))))))))) (fun e3 => (some (.inr e3, σ))) q1)
set_option maxHeartbeats 4000000 in
set_option maxRecDepth 100000 in
theorem okX5_setTogether (l : Launch) (hlf : l.stackTraces = false) (cy : Nat → ClassId) (D : va_G) (B : Nat) (ek : EK) (p1 : Int32) (p2 : Int32) (σ μ ω : Mem) (res : (Int32 ⊕ Nat) × Mem) (h : fX5_setTogether p1 p2 σ = some res) : CTX l cy D B ek yX5_setTogether cX5_setTogether 4 (some .boolean) ({ frames := 7, cells := 1, slots := 6, locals := 141 } : Room) 1 6 [.ref (B + oHB), .int p1, .int p2] σ μ ω (Sum.map (fun x => some (Value.int x)) id res.1) res.2 μ ω := by
  refine met_XX (own := "HostelBeds") (by decide) rfl (Nat.le_of_ble_eq_true rfl) ?_
  intro p e s m args below meth c C hrT hlk htab
  have hret : ∀ (x9 : Int32), res.1 = .inl x9 → ∀ (cells9 slots9 pc9 : Nat) (lcs9 : List (Nat × Value)), decode cX5_setTogether pc9 = .ok (.ireturn, 1) → narrow .boolean (.int x9) = .int x9 → cells9 ≤ 1 → slots9 ≤ 6 → X p l e ({ frames := 7, cells := 1, slots := 6, locals := 141 } : Room) s m args below meth c 4 cy D B cells9 slots9 (vx_MQ below (QX cy D B (Sum.map (fun x => some (Value.int x)) id res.1) res.2 μ ω) (XCX cy D B (Sum.map (fun x => some (Value.int x)) id res.1) res.2 μ ω) args s 1 6 (aB B)) pc9 lcs9 [.int x9] res.2 μ ω := fun x9 hx9 cells9 slots9 pc9 lcs9 hd hn h1 h2 => by rw [hx9]; exact x_zretX C hrT hlk hn hd h1 h2
  have hout : ∀ (k9 : Nat), res.1 = .inr k9 → ∀ (cells9 slots9 pc9 : Nat) (lcs9 : List (Nat × Value)) (st9 : List Value), cells9 ≤ 1 → slots9 ≤ 6 → XO p l e ({ frames := 7, cells := 1, slots := 6, locals := 141 } : Room) s m args below meth c 4 cy D B cells9 slots9 (vx_MQ below (QX cy D B (Sum.map (fun x => some (Value.int x)) id res.1) res.2 μ ω) (XCX cy D B (Sum.map (fun x => some (Value.int x)) id res.1) res.2 μ ω) args s 1 6 (aB B)) pc9 lcs9 st9 res.2 μ ω k9 := fun k9 hx9 cells9 slots9 pc9 lcs9 st9 h1 h2 => by rw [hx9]; exact x_out C htab hlk h1 h2
  have hthr : True := trivial
  generalize (vx_MQ below (QX cy D B (Sum.map (fun x => some (Value.int x)) id res.1) res.2 μ ω) (XCX cy D B (Sum.map (fun x => some (Value.int x)) id res.1) res.2 μ ω) args s 1 6 (aB B)) = Q at hret hthr hout ⊢
  obtain ⟨R, hR9⟩ : ∃ R : Room, R = ({ frames := 7, cells := 1, slots := 6, locals := 141 } : Room) := ⟨_, rfl⟩
  rw [← hR9] at hret hout ⊢
  unfold fX5_setTogether at h
  show X p l e R s m args below meth c 4 cy D B 0 0 Q 0 [(0, .ref (B + oHB)), (1, .int p1), (2, .int p2)] [] σ μ ω
  refine x_aload_n C dX5_setTogether_0 rfl 0 rfl ?_
  refine x_iload_n C dX5_setTogether_1 rfl 1 rfl ?_
  obtain ⟨q1, hk1, h⟩ := Option.bind_eq_some_iff.mp h
  refine x_callVX C (As := [.int p1]) (rest := []) (cells2 := 1) (slots2 := 6) (lw_g_mk tw_788 rfl) (lw_g_mk tsel_4 rfl) (c_HB) (C1 := "HostelBeds") (T := TX5) (N := 12) (ci := 5) rfl (okX5_checkBooking l hlf cy D B ek p1 σ μ ω _ hk1) rfl rfl (by rw [hR9]; decide) (lw_g_mk tw_789 rfl) (lw_g_mk tw_1 rfl) (by decide) rfl (lw_g_mk tw_786 rfl) rfl (Nat.le_of_ble_eq_true rfl) dX5_setTogether_2 (by rw [hR9]; decide) rfl rfl (fun v2 hv3 => ?_) (fun k4 hv5 => ?_)
  · rcases q1 with x2 | e3
    · rw [Sum.elim_inl] at h
      have hv3 : (Sum.inl (none) : Option Value ⊕ Nat) = .inl v2 := hv3
      cases hv3
      refine x_aload_n C dX5_setTogether_5 rfl 0 rfl ?_
      obtain ⟨q4, hk7, h⟩ := Option.bind_eq_some_iff.mp h
      refine x_callV C (As := []) (rest := []) (lw_g_mk tw_1030 rfl) (lw_g_mk tsel_11 rfl) (c_HB) (C1 := "HostelBeds") (T := TX5) (N := 12) (ci := 5) rfl (okX5_remember l cy D B ek σ μ ω _ hk7) rfl rfl (by rw [hR9]; decide) (lw_g_mk tw_1031 rfl) (lw_g_mk tw_1 rfl) (by decide) rfl (lw_g_mk tw_1028 rfl) rfl (Nat.le_of_ble_eq_true rfl) dX5_setTogether_6 (by rw [hR9]; decide) ?_
      refine x_aload_n C dX5_setTogether_9 rfl 0 rfl ?_
      refine x_get C (C1 := "HostelBeds") (T := TX5) (N := 12) (ci := 5) inXg5 _ (c_HB) rfl 2 (by decide) (lw_g_mk tw_289 rfl) rfl dX5_setTogether_10 ?_
      obtain ⟨hg8, h⟩ := gd_some h
      refine x_get C (C1 := "HostelBeds$Hostel") (T := TX1) (N := 12) (ci := 1) inXg1 _ (c_Ho hg8) rfl 3 (by decide) (lw_g_mk tw_197 rfl) rfl dX5_setTogether_13 ?_
      refine x_iload_n C dX5_setTogether_16 rfl 1 rfl ?_
      obtain ⟨hg9, h⟩ := gd_some h
      refine x_aldq C _ 6 (C1 := "HostelBeds$Booking") (c_Bks hg8) rfl hg9 rfl dX5_setTogether_17 ?_
      refine x_get C (C1 := "HostelBeds$Booking") (T := TX0) (N := 11) (ci := 0) inXg0 _ (c_Bk hg8 (inb_lt hg9)) rfl 8 (by decide) (lw_g_mk tw_142 rfl) rfl dX5_setTogether_18 ?_
      refine x_istore_n C [(3, .int (rI q4 47 (rP q4 0) p1.toNatClampNeg)), (0, .ref (B + oHB)), (1, .int p1), (2, .int p2)] dX5_setTogether_21 rfl (by decide) rfl ?_
      refine x_aload_n C dX5_setTogether_22 rfl 1 rfl ?_
      refine x_get C (C1 := "HostelBeds") (T := TX5) (N := 12) (ci := 5) inXg5 _ (c_HB) rfl 2 (by decide) (lw_g_mk tw_289 rfl) rfl dX5_setTogether_23 ?_
      refine x_get C (C1 := "HostelBeds$Hostel") (T := TX1) (N := 12) (ci := 1) inXg1 _ (c_Ho hg8) rfl 3 (by decide) (lw_g_mk tw_197 rfl) rfl dX5_setTogether_26 ?_
      refine x_iload_n C dX5_setTogether_29 rfl 2 rfl ?_
      refine x_aldq C _ 6 (C1 := "HostelBeds$Booking") (c_Bks hg8) rfl hg9 rfl dX5_setTogether_30 ?_
      refine x_iload_n C dX5_setTogether_31 rfl 3 rfl ?_
      obtain ⟨hg10, h⟩ := gd_some h
      refine x_put C (C1 := "HostelBeds$Booking") (T := TX0) (N := 11) (ci := 0) inXg0 tyX0 tyX0_ok nmX0 _ (c_Bk hg8 (inb_lt hg9)) rfl 8 (by decide) (lw_g_mk tw_142 rfl) rfl rfl (nar_Z hg10) (fit_Z hg10) (Nat.le_of_ble_eq_true rfl) dX5_setTogether_32 (s_Bk_together hg8 (inb_lt hg9)) ?_
      refine x_aload_n C dX5_setTogether_35 rfl 1 rfl ?_
      refine x_get C (C1 := "HostelBeds") (T := TX5) (N := 12) (ci := 5) inXg5 _ (c_HB) rfl 4 (by decide) (lw_g_mk tw_291 rfl) rfl dX5_setTogether_36 ?_
      refine x_aload_n C dX5_setTogether_39 rfl 1 rfl ?_
      refine x_get C (C1 := "HostelBeds") (T := TX5) (N := 12) (ci := 5) inXg5 _ (c_HB) rfl 2 (by decide) (lw_g_mk tw_289 rfl) rfl dX5_setTogether_40 ?_
      obtain ⟨hg11, h⟩ := gd_some h
      obtain ⟨q5, hk12, h⟩ := Option.bind_eq_some_iff.mp h
      refine x_callV C (As := [.ref (B + oHo (rP (wI q4 47 (rP q4 0) p1.toNatClampNeg p2) 0))]) (rest := []) (lw_g_mk tw_413 rfl) (lw_g_mk tw_414 rfl) (c_Pl (by decide)) (C1 := "HostelBeds$Plan") (T := TX3) (N := 8) (ci := 3) rfl (okX3_make l cy D B ek 0 (rP (wI q4 47 (rP q4 0) p1.toNatClampNeg p2) 0) (wI q4 47 (rP q4 0) p1.toNatClampNeg p2) μ ω (by decide) hg11 _ hk12) rfl rfl (by rw [hR9]; decide) (lw_g_mk tw_415 rfl) (lw_g_mk tw_6 rfl) (by decide) rfl (lw_g_mk tw_412 rfl) rfl (Nat.le_of_ble_eq_true rfl) dX5_setTogether_43 (by rw [hR9]; decide) ?_
      refine x_iload_n C dX5_setTogether_46 rfl 0 rfl ?_
      obtain ⟨hg13, h⟩ := gd_some h
      cases h
      exact hret _ rfl _ _ _ _ dX5_setTogether_47 (nar_Z hg13) (by decide) (by decide)
    · cases hv3
  · rcases q1 with x2 | e3
    · cases hv5
    · rw [Sum.elim_inr] at h
      have hv5 : (Sum.inr e3 : Option Value ⊕ Nat) = .inr k4 := hv5
      cases hv5
      cases h
      exact hout _ rfl _ _ _ _ _ (by decide) (by decide)
def fX5_setOver (p1 : Int32) (σ : Mem) : Option ((Int32 ⊕ Nat) × Mem) := ((fX5_checkRange p1 (0 : Int32) (50 : Int32)).bind fun q1 => Sum.elim (fun x2 => ((fX5_remember σ).bind fun q4 => (gd (rP q4 0 < 12) (gd (rP (wI q4 24 (rP q4 0) 0 p1) 0 < 12) ((fX1_acceptWaiting (rP (wI q4 24 (rP q4 0) 0 p1) 0) (wI q4 24 (rP q4 0) 0 p1)).bind fun q5 => (gd (rP q5.2 0 < 12) ((fX3_make 0 (rP q5.2 0) q5.2).bind fun q6 => (some (.inl q5.1, q6))))))))) (fun e3 => (some (.inr e3, σ))) q1)
set_option maxHeartbeats 4000000 in
set_option maxRecDepth 100000 in
theorem okX5_setOver (l : Launch) (hlf : l.stackTraces = false) (cy : Nat → ClassId) (D : va_G) (B : Nat) (ek : EK) (p1 : Int32) (σ μ ω : Mem) (res : (Int32 ⊕ Nat) × Mem) (h : fX5_setOver p1 σ = some res) : CTX l cy D B ek yX5_setOver cX5_setOver 3 (some .int) ({ frames := 7, cells := 1, slots := 6, locals := 142 } : Room) 1 6 [.ref (B + oHB), .int p1] σ μ ω (Sum.map (fun x => some (Value.int x)) id res.1) res.2 μ ω := by
  refine met_XX (own := "HostelBeds") (by decide) rfl (Nat.le_of_ble_eq_true rfl) ?_
  intro p e s m args below meth c C hrT hlk htab
  have hret : ∀ (x9 : Int32), res.1 = .inl x9 → ∀ (cells9 slots9 pc9 : Nat) (lcs9 : List (Nat × Value)), decode cX5_setOver pc9 = .ok (.ireturn, 1) → narrow .int (.int x9) = .int x9 → cells9 ≤ 1 → slots9 ≤ 6 → X p l e ({ frames := 7, cells := 1, slots := 6, locals := 142 } : Room) s m args below meth c 3 cy D B cells9 slots9 (vx_MQ below (QX cy D B (Sum.map (fun x => some (Value.int x)) id res.1) res.2 μ ω) (XCX cy D B (Sum.map (fun x => some (Value.int x)) id res.1) res.2 μ ω) args s 1 6 (aB B)) pc9 lcs9 [.int x9] res.2 μ ω := fun x9 hx9 cells9 slots9 pc9 lcs9 hd hn h1 h2 => by rw [hx9]; exact x_zretX C hrT hlk hn hd h1 h2
  have hout : ∀ (k9 : Nat), res.1 = .inr k9 → ∀ (cells9 slots9 pc9 : Nat) (lcs9 : List (Nat × Value)) (st9 : List Value), cells9 ≤ 1 → slots9 ≤ 6 → XO p l e ({ frames := 7, cells := 1, slots := 6, locals := 142 } : Room) s m args below meth c 3 cy D B cells9 slots9 (vx_MQ below (QX cy D B (Sum.map (fun x => some (Value.int x)) id res.1) res.2 μ ω) (XCX cy D B (Sum.map (fun x => some (Value.int x)) id res.1) res.2 μ ω) args s 1 6 (aB B)) pc9 lcs9 st9 res.2 μ ω k9 := fun k9 hx9 cells9 slots9 pc9 lcs9 st9 h1 h2 => by rw [hx9]; exact x_out C htab hlk h1 h2
  have hthr : True := trivial
  generalize (vx_MQ below (QX cy D B (Sum.map (fun x => some (Value.int x)) id res.1) res.2 μ ω) (XCX cy D B (Sum.map (fun x => some (Value.int x)) id res.1) res.2 μ ω) args s 1 6 (aB B)) = Q at hret hthr hout ⊢
  obtain ⟨R, hR9⟩ : ∃ R : Room, R = ({ frames := 7, cells := 1, slots := 6, locals := 142 } : Room) := ⟨_, rfl⟩
  rw [← hR9] at hret hout ⊢
  unfold fX5_setOver at h
  show X p l e R s m args below meth c 3 cy D B 0 0 Q 0 [(0, .ref (B + oHB)), (1, .int p1)] [] σ μ ω
  refine x_iload_n C dX5_setOver_0 rfl 1 rfl ?_
  refine x_iconst C (v := 0) dX5_setOver_1 (by decide) ?_
  refine x_bipush C (v := 50) dX5_setOver_2 (by decide) ?_
  obtain ⟨q1, hk1, h⟩ := Option.bind_eq_some_iff.mp h
  refine x_callSX C (As := [.int p1, .int (0 : Int32), .int (50 : Int32)]) (rest := []) (cells2 := 1) (slots2 := 6) (lw_g_mk tw_997 rfl) (okX5_checkRange l hlf cy D B ek p1 (0 : Int32) (50 : Int32) σ μ ω _ hk1) rfl rfl (by rw [hR9]; decide) (lw_g_mk tw_998 rfl) (lw_g_mk tw_1 rfl) (by decide) rfl (lw_g_mk tw_996 rfl) rfl (Nat.le_of_ble_eq_true rfl) dX5_setOver_4 (by rw [hR9]; decide) rfl rfl (fun v2 hv3 => ?_) (fun k4 hv5 => ?_)
  · rcases q1 with x2 | e3
    · rw [Sum.elim_inl] at h
      have hv3 : (Sum.inl (none) : Option Value ⊕ Nat) = .inl v2 := hv3
      cases hv3
      refine x_aload_n C dX5_setOver_7 rfl 0 rfl ?_
      obtain ⟨q4, hk7, h⟩ := Option.bind_eq_some_iff.mp h
      refine x_callV C (As := []) (rest := []) (lw_g_mk tw_1030 rfl) (lw_g_mk tsel_11 rfl) (c_HB) (C1 := "HostelBeds") (T := TX5) (N := 12) (ci := 5) rfl (okX5_remember l cy D B ek σ μ ω _ hk7) rfl rfl (by rw [hR9]; decide) (lw_g_mk tw_1031 rfl) (lw_g_mk tw_1 rfl) (by decide) rfl (lw_g_mk tw_1028 rfl) rfl (Nat.le_of_ble_eq_true rfl) dX5_setOver_8 (by rw [hR9]; decide) ?_
      refine x_aload_n C dX5_setOver_11 rfl 0 rfl ?_
      refine x_get C (C1 := "HostelBeds") (T := TX5) (N := 12) (ci := 5) inXg5 _ (c_HB) rfl 2 (by decide) (lw_g_mk tw_289 rfl) rfl dX5_setOver_12 ?_
      obtain ⟨hg8, h⟩ := gd_some h
      refine x_iload_n C dX5_setOver_15 rfl 1 rfl ?_
      refine x_put C (C1 := "HostelBeds$Hostel") (T := TX1) (N := 12) (ci := 1) inXg1 tyX1 tyX1_ok nmX1 _ (c_Ho hg8) rfl 8 (by decide) (lw_g_mk tw_210 rfl) rfl rfl rfl rfl (Nat.le_of_ble_eq_true rfl) dX5_setOver_16 (s_Ho_over hg8) ?_
      refine x_aload_n C dX5_setOver_19 rfl 0 rfl ?_
      refine x_get C (C1 := "HostelBeds") (T := TX5) (N := 12) (ci := 5) inXg5 _ (c_HB) rfl 2 (by decide) (lw_g_mk tw_289 rfl) rfl dX5_setOver_20 ?_
      obtain ⟨hg9, h⟩ := gd_some h
      obtain ⟨q5, hk10, h⟩ := Option.bind_eq_some_iff.mp h
      refine x_callV C (As := []) (rest := []) (lw_g_mk tw_706 rfl) (lw_g_mk tw_707 rfl) (c_Ho hg9) (C1 := "HostelBeds$Hostel") (T := TX1) (N := 12) (ci := 1) rfl (okX1_acceptWaiting l cy D B ek (rP (wI q4 24 (rP q4 0) 0 p1) 0) (wI q4 24 (rP q4 0) 0 p1) μ ω hg9 _ hk10) rfl rfl (by rw [hR9]; decide) (lw_g_mk tw_708 rfl) (lw_g_mk tw_3 rfl) (by decide) rfl (lw_g_mk tw_1042 rfl) rfl (Nat.le_of_ble_eq_true rfl) dX5_setOver_23 (by rw [hR9]; decide) ?_
      refine x_istore_n C [(2, .int q5.1), (0, .ref (B + oHB)), (1, .int p1)] dX5_setOver_26 rfl (by decide) rfl ?_
      refine x_aload_n C dX5_setOver_27 rfl 1 rfl ?_
      refine x_get C (C1 := "HostelBeds") (T := TX5) (N := 12) (ci := 5) inXg5 _ (c_HB) rfl 4 (by decide) (lw_g_mk tw_291 rfl) rfl dX5_setOver_28 ?_
      refine x_aload_n C dX5_setOver_31 rfl 1 rfl ?_
      refine x_get C (C1 := "HostelBeds") (T := TX5) (N := 12) (ci := 5) inXg5 _ (c_HB) rfl 2 (by decide) (lw_g_mk tw_289 rfl) rfl dX5_setOver_32 ?_
      obtain ⟨hg11, h⟩ := gd_some h
      obtain ⟨q6, hk12, h⟩ := Option.bind_eq_some_iff.mp h
      refine x_callV C (As := [.ref (B + oHo (rP q5.2 0))]) (rest := []) (lw_g_mk tw_413 rfl) (lw_g_mk tw_414 rfl) (c_Pl (by decide)) (C1 := "HostelBeds$Plan") (T := TX3) (N := 8) (ci := 3) rfl (okX3_make l cy D B ek 0 (rP q5.2 0) q5.2 μ ω (by decide) hg11 _ hk12) rfl rfl (by rw [hR9]; decide) (lw_g_mk tw_415 rfl) (lw_g_mk tw_6 rfl) (by decide) rfl (lw_g_mk tw_412 rfl) rfl (Nat.le_of_ble_eq_true rfl) dX5_setOver_35 (by rw [hR9]; decide) ?_
      refine x_iload_n C dX5_setOver_38 rfl 0 rfl ?_
      cases h
      exact hret _ rfl _ _ _ _ dX5_setOver_39 rfl (by decide) (by decide)
    · cases hv3
  · rcases q1 with x2 | e3
    · cases hv5
    · rw [Sum.elim_inr] at h
      have hv5 : (Sum.inr e3 : Option Value ⊕ Nat) = .inr k4 := hv5
      cases hv5
      cases h
      exact hout _ rfl _ _ _ _ _ (by decide) (by decide)
def fX5_setWalk (p1 : Int32) (σ : Mem) : Option ((Int32 ⊕ Nat) × Mem) := ((fX5_checkRange p1 (0 : Int32) (300 : Int32)).bind fun q1 => Sum.elim (fun x2 => ((fX5_remember σ).bind fun q4 => (gd (rP q4 0 < 12) (gd (rP (wI q4 25 (rP q4 0) 0 p1) 0 < 12) ((fX3_make 0 (rP (wI q4 25 (rP q4 0) 0 p1) 0) (wI q4 25 (rP q4 0) 0 p1)).bind fun q5 => (some (.inl (rI q4 25 (rP q4 0) 0), q5))))))) (fun e3 => (some (.inr e3, σ))) q1)
set_option maxHeartbeats 4000000 in
set_option maxRecDepth 100000 in
theorem okX5_setWalk (l : Launch) (hlf : l.stackTraces = false) (cy : Nat → ClassId) (D : va_G) (B : Nat) (ek : EK) (p1 : Int32) (σ μ ω : Mem) (res : (Int32 ⊕ Nat) × Mem) (h : fX5_setWalk p1 σ = some res) : CTX l cy D B ek yX5_setWalk cX5_setWalk 3 (some .int) ({ frames := 7, cells := 1, slots := 6, locals := 142 } : Room) 1 6 [.ref (B + oHB), .int p1] σ μ ω (Sum.map (fun x => some (Value.int x)) id res.1) res.2 μ ω := by
  refine met_XX (own := "HostelBeds") (by decide) rfl (Nat.le_of_ble_eq_true rfl) ?_
  intro p e s m args below meth c C hrT hlk htab
  have hret : ∀ (x9 : Int32), res.1 = .inl x9 → ∀ (cells9 slots9 pc9 : Nat) (lcs9 : List (Nat × Value)), decode cX5_setWalk pc9 = .ok (.ireturn, 1) → narrow .int (.int x9) = .int x9 → cells9 ≤ 1 → slots9 ≤ 6 → X p l e ({ frames := 7, cells := 1, slots := 6, locals := 142 } : Room) s m args below meth c 3 cy D B cells9 slots9 (vx_MQ below (QX cy D B (Sum.map (fun x => some (Value.int x)) id res.1) res.2 μ ω) (XCX cy D B (Sum.map (fun x => some (Value.int x)) id res.1) res.2 μ ω) args s 1 6 (aB B)) pc9 lcs9 [.int x9] res.2 μ ω := fun x9 hx9 cells9 slots9 pc9 lcs9 hd hn h1 h2 => by rw [hx9]; exact x_zretX C hrT hlk hn hd h1 h2
  have hout : ∀ (k9 : Nat), res.1 = .inr k9 → ∀ (cells9 slots9 pc9 : Nat) (lcs9 : List (Nat × Value)) (st9 : List Value), cells9 ≤ 1 → slots9 ≤ 6 → XO p l e ({ frames := 7, cells := 1, slots := 6, locals := 142 } : Room) s m args below meth c 3 cy D B cells9 slots9 (vx_MQ below (QX cy D B (Sum.map (fun x => some (Value.int x)) id res.1) res.2 μ ω) (XCX cy D B (Sum.map (fun x => some (Value.int x)) id res.1) res.2 μ ω) args s 1 6 (aB B)) pc9 lcs9 st9 res.2 μ ω k9 := fun k9 hx9 cells9 slots9 pc9 lcs9 st9 h1 h2 => by rw [hx9]; exact x_out C htab hlk h1 h2
  have hthr : True := trivial
  generalize (vx_MQ below (QX cy D B (Sum.map (fun x => some (Value.int x)) id res.1) res.2 μ ω) (XCX cy D B (Sum.map (fun x => some (Value.int x)) id res.1) res.2 μ ω) args s 1 6 (aB B)) = Q at hret hthr hout ⊢
  obtain ⟨R, hR9⟩ : ∃ R : Room, R = ({ frames := 7, cells := 1, slots := 6, locals := 142 } : Room) := ⟨_, rfl⟩
  rw [← hR9] at hret hout ⊢
  unfold fX5_setWalk at h
  show X p l e R s m args below meth c 3 cy D B 0 0 Q 0 [(0, .ref (B + oHB)), (1, .int p1)] [] σ μ ω
  refine x_iload_n C dX5_setWalk_0 rfl 1 rfl ?_
  refine x_iconst C (v := 0) dX5_setWalk_1 (by decide) ?_
  refine x_sipush C (v := 300) dX5_setWalk_2 (by decide) ?_
  obtain ⟨q1, hk1, h⟩ := Option.bind_eq_some_iff.mp h
  refine x_callSX C (As := [.int p1, .int (0 : Int32), .int (300 : Int32)]) (rest := []) (cells2 := 1) (slots2 := 6) (lw_g_mk tw_997 rfl) (okX5_checkRange l hlf cy D B ek p1 (0 : Int32) (300 : Int32) σ μ ω _ hk1) rfl rfl (by rw [hR9]; decide) (lw_g_mk tw_998 rfl) (lw_g_mk tw_1 rfl) (by decide) rfl (lw_g_mk tw_996 rfl) rfl (Nat.le_of_ble_eq_true rfl) dX5_setWalk_5 (by rw [hR9]; decide) rfl rfl (fun v2 hv3 => ?_) (fun k4 hv5 => ?_)
  · rcases q1 with x2 | e3
    · rw [Sum.elim_inl] at h
      have hv3 : (Sum.inl (none) : Option Value ⊕ Nat) = .inl v2 := hv3
      cases hv3
      refine x_aload_n C dX5_setWalk_8 rfl 0 rfl ?_
      obtain ⟨q4, hk7, h⟩ := Option.bind_eq_some_iff.mp h
      refine x_callV C (As := []) (rest := []) (lw_g_mk tw_1030 rfl) (lw_g_mk tsel_11 rfl) (c_HB) (C1 := "HostelBeds") (T := TX5) (N := 12) (ci := 5) rfl (okX5_remember l cy D B ek σ μ ω _ hk7) rfl rfl (by rw [hR9]; decide) (lw_g_mk tw_1031 rfl) (lw_g_mk tw_1 rfl) (by decide) rfl (lw_g_mk tw_1028 rfl) rfl (Nat.le_of_ble_eq_true rfl) dX5_setWalk_9 (by rw [hR9]; decide) ?_
      refine x_aload_n C dX5_setWalk_12 rfl 0 rfl ?_
      refine x_get C (C1 := "HostelBeds") (T := TX5) (N := 12) (ci := 5) inXg5 _ (c_HB) rfl 2 (by decide) (lw_g_mk tw_289 rfl) rfl dX5_setWalk_13 ?_
      obtain ⟨hg8, h⟩ := gd_some h
      refine x_get C (C1 := "HostelBeds$Hostel") (T := TX1) (N := 12) (ci := 1) inXg1 _ (c_Ho hg8) rfl 9 (by decide) (lw_g_mk tw_213 rfl) rfl dX5_setWalk_16 ?_
      refine x_istore_n C [(2, .int (rI q4 25 (rP q4 0) 0)), (0, .ref (B + oHB)), (1, .int p1)] dX5_setWalk_19 rfl (by decide) rfl ?_
      refine x_aload_n C dX5_setWalk_20 rfl 1 rfl ?_
      refine x_get C (C1 := "HostelBeds") (T := TX5) (N := 12) (ci := 5) inXg5 _ (c_HB) rfl 2 (by decide) (lw_g_mk tw_289 rfl) rfl dX5_setWalk_21 ?_
      refine x_iload_n C dX5_setWalk_24 rfl 2 rfl ?_
      refine x_put C (C1 := "HostelBeds$Hostel") (T := TX1) (N := 12) (ci := 1) inXg1 tyX1 tyX1_ok nmX1 _ (c_Ho hg8) rfl 9 (by decide) (lw_g_mk tw_213 rfl) rfl rfl rfl rfl (Nat.le_of_ble_eq_true rfl) dX5_setWalk_25 (s_Ho_walk hg8) ?_
      refine x_aload_n C dX5_setWalk_28 rfl 1 rfl ?_
      refine x_get C (C1 := "HostelBeds") (T := TX5) (N := 12) (ci := 5) inXg5 _ (c_HB) rfl 4 (by decide) (lw_g_mk tw_291 rfl) rfl dX5_setWalk_29 ?_
      refine x_aload_n C dX5_setWalk_32 rfl 1 rfl ?_
      refine x_get C (C1 := "HostelBeds") (T := TX5) (N := 12) (ci := 5) inXg5 _ (c_HB) rfl 2 (by decide) (lw_g_mk tw_289 rfl) rfl dX5_setWalk_33 ?_
      obtain ⟨hg9, h⟩ := gd_some h
      obtain ⟨q5, hk10, h⟩ := Option.bind_eq_some_iff.mp h
      refine x_callV C (As := [.ref (B + oHo (rP (wI q4 25 (rP q4 0) 0 p1) 0))]) (rest := []) (lw_g_mk tw_413 rfl) (lw_g_mk tw_414 rfl) (c_Pl (by decide)) (C1 := "HostelBeds$Plan") (T := TX3) (N := 8) (ci := 3) rfl (okX3_make l cy D B ek 0 (rP (wI q4 25 (rP q4 0) 0 p1) 0) (wI q4 25 (rP q4 0) 0 p1) μ ω (by decide) hg9 _ hk10) rfl rfl (by rw [hR9]; decide) (lw_g_mk tw_415 rfl) (lw_g_mk tw_6 rfl) (by decide) rfl (lw_g_mk tw_412 rfl) rfl (Nat.le_of_ble_eq_true rfl) dX5_setWalk_36 (by rw [hR9]; decide) ?_
      refine x_iload_n C dX5_setWalk_39 rfl 0 rfl ?_
      cases h
      exact hret _ rfl _ _ _ _ dX5_setWalk_40 rfl (by decide) (by decide)
    · cases hv3
  · rcases q1 with x2 | e3
    · cases hv5
    · rw [Sum.elim_inr] at h
      have hv5 : (Sum.inr e3 : Option Value ⊕ Nat) = .inr k4 := hv5
      cases hv5
      cases h
      exact hout _ rfl _ _ _ _ _ (by decide) (by decide)
def fX5_setPrice (p1 : Int32) (p2 : Int32) (σ : Mem) : Option ((Int32 ⊕ Nat) × Mem) := ((fX5_checkRoom p1 σ).bind fun q1 => Sum.elim (fun x2 => ((fX5_checkRange p2 (1 : Int32) (200 : Int32)).bind fun q4 => Sum.elim (fun x5 => ((fX5_remember σ).bind fun q7 => (gd (rP q7 0 < 12) (gd (inb p1 8) (gd (rP (wI q7 33 (rP q7 0) p1.toNatClampNeg p2) 0 < 12) ((fX3_make 0 (rP (wI q7 33 (rP q7 0) p1.toNatClampNeg p2) 0) (wI q7 33 (rP q7 0) p1.toNatClampNeg p2)).bind fun q8 => (some (.inl (rI q7 33 (rP q7 0) p1.toNatClampNeg), q8)))))))) (fun e6 => (some (.inr e6, σ))) q4)) (fun e3 => (some (.inr e3, σ))) q1)
set_option maxHeartbeats 4000000 in
set_option maxRecDepth 100000 in
theorem okX5_setPrice (l : Launch) (hlf : l.stackTraces = false) (cy : Nat → ClassId) (D : va_G) (B : Nat) (ek : EK) (p1 : Int32) (p2 : Int32) (σ μ ω : Mem) (res : (Int32 ⊕ Nat) × Mem) (h : fX5_setPrice p1 p2 σ = some res) : CTX l cy D B ek yX5_setPrice cX5_setPrice 4 (some .int) ({ frames := 7, cells := 2, slots := 12, locals := 142 } : Room) 2 12 [.ref (B + oHB), .int p1, .int p2] σ μ ω (Sum.map (fun x => some (Value.int x)) id res.1) res.2 μ ω := by
  refine met_XX (own := "HostelBeds") (by decide) rfl (Nat.le_of_ble_eq_true rfl) ?_
  intro p e s m args below meth c C hrT hlk htab
  have hret : ∀ (x9 : Int32), res.1 = .inl x9 → ∀ (cells9 slots9 pc9 : Nat) (lcs9 : List (Nat × Value)), decode cX5_setPrice pc9 = .ok (.ireturn, 1) → narrow .int (.int x9) = .int x9 → cells9 ≤ 2 → slots9 ≤ 12 → X p l e ({ frames := 7, cells := 2, slots := 12, locals := 142 } : Room) s m args below meth c 4 cy D B cells9 slots9 (vx_MQ below (QX cy D B (Sum.map (fun x => some (Value.int x)) id res.1) res.2 μ ω) (XCX cy D B (Sum.map (fun x => some (Value.int x)) id res.1) res.2 μ ω) args s 2 12 (aB B)) pc9 lcs9 [.int x9] res.2 μ ω := fun x9 hx9 cells9 slots9 pc9 lcs9 hd hn h1 h2 => by rw [hx9]; exact x_zretX C hrT hlk hn hd h1 h2
  have hout : ∀ (k9 : Nat), res.1 = .inr k9 → ∀ (cells9 slots9 pc9 : Nat) (lcs9 : List (Nat × Value)) (st9 : List Value), cells9 ≤ 2 → slots9 ≤ 12 → XO p l e ({ frames := 7, cells := 2, slots := 12, locals := 142 } : Room) s m args below meth c 4 cy D B cells9 slots9 (vx_MQ below (QX cy D B (Sum.map (fun x => some (Value.int x)) id res.1) res.2 μ ω) (XCX cy D B (Sum.map (fun x => some (Value.int x)) id res.1) res.2 μ ω) args s 2 12 (aB B)) pc9 lcs9 st9 res.2 μ ω k9 := fun k9 hx9 cells9 slots9 pc9 lcs9 st9 h1 h2 => by rw [hx9]; exact x_out C htab hlk h1 h2
  have hthr : True := trivial
  generalize (vx_MQ below (QX cy D B (Sum.map (fun x => some (Value.int x)) id res.1) res.2 μ ω) (XCX cy D B (Sum.map (fun x => some (Value.int x)) id res.1) res.2 μ ω) args s 2 12 (aB B)) = Q at hret hthr hout ⊢
  obtain ⟨R, hR9⟩ : ∃ R : Room, R = ({ frames := 7, cells := 2, slots := 12, locals := 142 } : Room) := ⟨_, rfl⟩
  rw [← hR9] at hret hout ⊢
  unfold fX5_setPrice at h
  show X p l e R s m args below meth c 4 cy D B 0 0 Q 0 [(0, .ref (B + oHB)), (1, .int p1), (2, .int p2)] [] σ μ ω
  refine x_aload_n C dX5_setPrice_0 rfl 0 rfl ?_
  refine x_iload_n C dX5_setPrice_1 rfl 1 rfl ?_
  obtain ⟨q1, hk1, h⟩ := Option.bind_eq_some_iff.mp h
  refine x_callVX C (As := [.int p1]) (rest := []) (cells2 := 1) (slots2 := 6) (lw_g_mk tw_760 rfl) (lw_g_mk tsel_3 rfl) (c_HB) (C1 := "HostelBeds") (T := TX5) (N := 12) (ci := 5) rfl (okX5_checkRoom l hlf cy D B ek p1 σ μ ω _ hk1) rfl rfl (by rw [hR9]; decide) (lw_g_mk tw_761 rfl) (lw_g_mk tw_1 rfl) (by decide) rfl (lw_g_mk tw_758 rfl) rfl (Nat.le_of_ble_eq_true rfl) dX5_setPrice_2 (by rw [hR9]; decide) rfl rfl (fun v2 hv3 => ?_) (fun k4 hv5 => ?_)
  · rcases q1 with x2 | e3
    · rw [Sum.elim_inl] at h
      have hv3 : (Sum.inl (none) : Option Value ⊕ Nat) = .inl v2 := hv3
      cases hv3
      refine x_iload_n C dX5_setPrice_5 rfl 2 rfl ?_
      refine x_iconst C (v := 1) dX5_setPrice_6 (by decide) ?_
      refine x_sipush C (v := 200) dX5_setPrice_7 (by decide) ?_
      obtain ⟨q4, hk7, h⟩ := Option.bind_eq_some_iff.mp h
      refine x_callSX C (As := [.int p2, .int (1 : Int32), .int (200 : Int32)]) (rest := []) (cells2 := 2) (slots2 := 12) (lw_g_mk tw_997 rfl) (okX5_checkRange l hlf cy D B ek p2 (1 : Int32) (200 : Int32) σ μ ω _ hk7) rfl rfl (by rw [hR9]; decide) (lw_g_mk tw_998 rfl) (lw_g_mk tw_1 rfl) (by decide) rfl (lw_g_mk tw_996 rfl) rfl (Nat.le_of_ble_eq_true rfl) dX5_setPrice_10 (by rw [hR9]; decide) rfl rfl (fun v8 hv9 => ?_) (fun k10 hv11 => ?_)
      · rcases q4 with x5 | e6
        · rw [Sum.elim_inl] at h
          have hv9 : (Sum.inl (none) : Option Value ⊕ Nat) = .inl v8 := hv9
          cases hv9
          refine x_aload_n C dX5_setPrice_13 rfl 0 rfl ?_
          obtain ⟨q7, hk13, h⟩ := Option.bind_eq_some_iff.mp h
          refine x_callV C (As := []) (rest := []) (lw_g_mk tw_1030 rfl) (lw_g_mk tsel_11 rfl) (c_HB) (C1 := "HostelBeds") (T := TX5) (N := 12) (ci := 5) rfl (okX5_remember l cy D B ek σ μ ω _ hk13) rfl rfl (by rw [hR9]; decide) (lw_g_mk tw_1031 rfl) (lw_g_mk tw_1 rfl) (by decide) rfl (lw_g_mk tw_1028 rfl) rfl (Nat.le_of_ble_eq_true rfl) dX5_setPrice_14 (by rw [hR9]; decide) ?_
          refine x_aload_n C dX5_setPrice_17 rfl 0 rfl ?_
          refine x_get C (C1 := "HostelBeds") (T := TX5) (N := 12) (ci := 5) inXg5 _ (c_HB) rfl 2 (by decide) (lw_g_mk tw_289 rfl) rfl dX5_setPrice_18 ?_
          obtain ⟨hg14, h⟩ := gd_some h
          refine x_get C (C1 := "HostelBeds$Hostel") (T := TX1) (N := 12) (ci := 1) inXg1 _ (c_Ho hg14) rfl 0 (by decide) (lw_g_mk tw_185 rfl) rfl dX5_setPrice_21 ?_
          refine x_iload_n C dX5_setPrice_24 rfl 1 rfl ?_
          obtain ⟨hg15, h⟩ := gd_some h
          refine x_aldq C _ 5 (C1 := "HostelBeds$Room") (c_Rms hg14) rfl hg15 rfl dX5_setPrice_25 ?_
          refine x_get C (C1 := "HostelBeds$Room") (T := TX4) (N := 5) (ci := 4) inXg4 _ (c_Rm hg14 (inb_lt hg15)) rfl 4 (by decide) (lw_g_mk tw_92 rfl) rfl dX5_setPrice_26 ?_
          refine x_istore_n C [(3, .int (rI q7 33 (rP q7 0) p1.toNatClampNeg)), (0, .ref (B + oHB)), (1, .int p1), (2, .int p2)] dX5_setPrice_29 rfl (by decide) rfl ?_
          refine x_aload_n C dX5_setPrice_30 rfl 1 rfl ?_
          refine x_get C (C1 := "HostelBeds") (T := TX5) (N := 12) (ci := 5) inXg5 _ (c_HB) rfl 2 (by decide) (lw_g_mk tw_289 rfl) rfl dX5_setPrice_31 ?_
          refine x_get C (C1 := "HostelBeds$Hostel") (T := TX1) (N := 12) (ci := 1) inXg1 _ (c_Ho hg14) rfl 0 (by decide) (lw_g_mk tw_185 rfl) rfl dX5_setPrice_34 ?_
          refine x_iload_n C dX5_setPrice_37 rfl 2 rfl ?_
          refine x_aldq C _ 5 (C1 := "HostelBeds$Room") (c_Rms hg14) rfl hg15 rfl dX5_setPrice_38 ?_
          refine x_iload_n C dX5_setPrice_39 rfl 3 rfl ?_
          refine x_put C (C1 := "HostelBeds$Room") (T := TX4) (N := 5) (ci := 4) inXg4 tyX4 tyX4_ok nmX4 _ (c_Rm hg14 (inb_lt hg15)) rfl 4 (by decide) (lw_g_mk tw_92 rfl) rfl rfl rfl rfl (Nat.le_of_ble_eq_true rfl) dX5_setPrice_40 (s_Rm_price hg14 (inb_lt hg15)) ?_
          refine x_aload_n C dX5_setPrice_43 rfl 1 rfl ?_
          refine x_get C (C1 := "HostelBeds") (T := TX5) (N := 12) (ci := 5) inXg5 _ (c_HB) rfl 4 (by decide) (lw_g_mk tw_291 rfl) rfl dX5_setPrice_44 ?_
          refine x_aload_n C dX5_setPrice_47 rfl 1 rfl ?_
          refine x_get C (C1 := "HostelBeds") (T := TX5) (N := 12) (ci := 5) inXg5 _ (c_HB) rfl 2 (by decide) (lw_g_mk tw_289 rfl) rfl dX5_setPrice_48 ?_
          obtain ⟨hg16, h⟩ := gd_some h
          obtain ⟨q8, hk17, h⟩ := Option.bind_eq_some_iff.mp h
          refine x_callV C (As := [.ref (B + oHo (rP (wI q7 33 (rP q7 0) p1.toNatClampNeg p2) 0))]) (rest := []) (lw_g_mk tw_413 rfl) (lw_g_mk tw_414 rfl) (c_Pl (by decide)) (C1 := "HostelBeds$Plan") (T := TX3) (N := 8) (ci := 3) rfl (okX3_make l cy D B ek 0 (rP (wI q7 33 (rP q7 0) p1.toNatClampNeg p2) 0) (wI q7 33 (rP q7 0) p1.toNatClampNeg p2) μ ω (by decide) hg16 _ hk17) rfl rfl (by rw [hR9]; decide) (lw_g_mk tw_415 rfl) (lw_g_mk tw_6 rfl) (by decide) rfl (lw_g_mk tw_412 rfl) rfl (Nat.le_of_ble_eq_true rfl) dX5_setPrice_51 (by rw [hR9]; decide) ?_
          refine x_iload_n C dX5_setPrice_54 rfl 0 rfl ?_
          cases h
          exact hret _ rfl _ _ _ _ dX5_setPrice_55 rfl (by decide) (by decide)
        · cases hv9
      · rcases q4 with x5 | e6
        · cases hv11
        · rw [Sum.elim_inr] at h
          have hv11 : (Sum.inr e6 : Option Value ⊕ Nat) = .inr k10 := hv11
          cases hv11
          cases h
          exact hout _ rfl _ _ _ _ _ (by decide) (by decide)
    · cases hv3
  · rcases q1 with x2 | e3
    · cases hv5
    · rw [Sum.elim_inr] at h
      have hv5 : (Sum.inr e3 : Option Value ⊕ Nat) = .inr k4 := hv5
      cases hv5
      cases h
      exact hout _ rfl _ _ _ _ _ (by decide) (by decide)
def jX5_undo_52 (σ : Mem) (t1 : Int32) : Option ((Int32 ⊕ Nat) × Mem) := (gd (rP (wI (wI σ 3 0 0 ((rI σ 3 0 0) - (1 : Int32))) 2 0 0 t1) 0 < 12) (gd (inb (rI (wI (wI σ 3 0 0 ((rI σ 3 0 0) - (1 : Int32))) 2 0 0 t1) 2 0 0) 10) ((fX1_copy (rP (wI (wI σ 3 0 0 ((rI σ 3 0 0) - (1 : Int32))) 2 0 0 t1) 0) ((rI (wI (wI σ 3 0 0 ((rI σ 3 0 0) - (1 : Int32))) 2 0 0 t1) 2 0 0).toNatClampNeg + 2) (wI (wI σ 3 0 0 ((rI σ 3 0 0) - (1 : Int32))) 2 0 0 t1)).bind fun q2 => (gd (rP q2 0 < 12) ((fX3_make 0 (rP q2 0) q2).bind fun q3 => (some (.inl (rI q3 3 0 0), q3)))))))
def fX5_undo (σ : Mem) : Option ((Int32 ⊕ Nat) × Mem) := (if ¬ (rI σ 3 0 0) = 0 then (if ¬ (rI (wI σ 3 0 0 ((rI σ 3 0 0) - (1 : Int32))) 2 0 0) = 0 then (jX5_undo_52 σ ((rI (wI σ 3 0 0 ((rI σ 3 0 0) - (1 : Int32))) 2 0 0) - (1 : Int32))) else (jX5_undo_52 σ ((10 : Int32) - (1 : Int32)))) else (some (.inr 1, σ)))
set_option maxHeartbeats 4000000 in
set_option maxRecDepth 100000 in
theorem okX5_undo (l : Launch) (hlf : l.stackTraces = false) (cy : Nat → ClassId) (D : va_G) (B : Nat) (ek : EK) (σ μ ω : Mem) (res : (Int32 ⊕ Nat) × Mem) (h : fX5_undo σ = some res) : CTX l cy D B ek yX5_undo cX5_undo 1 (some .int) ({ frames := 6, cells := 1, slots := 6, locals := 122 } : Room) 1 6 [.ref (B + oHB)] σ μ ω (Sum.map (fun x => some (Value.int x)) id res.1) res.2 μ ω := by
  refine met_XX (own := "HostelBeds") (by decide) rfl (Nat.le_of_ble_eq_true rfl) ?_
  intro p e s m args below meth c C hrT hlk htab
  have hret : ∀ (x9 : Int32), res.1 = .inl x9 → ∀ (cells9 slots9 pc9 : Nat) (lcs9 : List (Nat × Value)), decode cX5_undo pc9 = .ok (.ireturn, 1) → narrow .int (.int x9) = .int x9 → cells9 ≤ 1 → slots9 ≤ 6 → X p l e ({ frames := 6, cells := 1, slots := 6, locals := 122 } : Room) s m args below meth c 1 cy D B cells9 slots9 (vx_MQ below (QX cy D B (Sum.map (fun x => some (Value.int x)) id res.1) res.2 μ ω) (XCX cy D B (Sum.map (fun x => some (Value.int x)) id res.1) res.2 μ ω) args s 1 6 (aB B)) pc9 lcs9 [.int x9] res.2 μ ω := fun x9 hx9 cells9 slots9 pc9 lcs9 hd hn h1 h2 => by rw [hx9]; exact x_zretX C hrT hlk hn hd h1 h2
  have hthr : ∀ (k9 : Nat), res.1 = .inr k9 → ∀ (cells9 slots9 pc9 : Nat) (lcs9 : List (Nat × Value)), (ThrowS "HostelBeds" cX5_undo pc9 k9 ∨ ThrowSW "HostelBeds" cX5_undo pc9 k9 ∨ ThrowN "HostelBeds" cX5_undo pc9 k9) → cells9 + 1 ≤ 1 → slots9 + 6 ≤ 6 → X p l e ({ frames := 6, cells := 1, slots := 6, locals := 122 } : Room) s m args below meth c 1 cy D B cells9 slots9 (vx_MQ below (QX cy D B (Sum.map (fun x => some (Value.int x)) id res.1) res.2 μ ω) (XCX cy D B (Sum.map (fun x => some (Value.int x)) id res.1) res.2 μ ω) args s 1 6 (aB B)) pc9 lcs9 [] res.2 μ ω := fun k9 hx9 cells9 slots9 pc9 lcs9 ht h1 h2 => by
    rw [hx9]
    rcases ht with ht | ht | ht
    · exact x_throwS C hlf ht htab (Nat.le_of_ble_eq_true rfl) (Nat.le_of_ble_eq_true rfl) h1 h2 hlk h1 h2
    · exact x_throwSW C hlf ht htab (Nat.le_of_ble_eq_true rfl) (Nat.le_of_ble_eq_true rfl) h1 h2 hlk h1 h2
    · exact x_throwN C hlf ht htab (Nat.le_of_ble_eq_true rfl) (Nat.le_of_ble_eq_true rfl) h1 h2 hlk h1 h2
  have hout : ∀ (k9 : Nat), res.1 = .inr k9 → ∀ (cells9 slots9 pc9 : Nat) (lcs9 : List (Nat × Value)) (st9 : List Value), cells9 ≤ 1 → slots9 ≤ 6 → XO p l e ({ frames := 6, cells := 1, slots := 6, locals := 122 } : Room) s m args below meth c 1 cy D B cells9 slots9 (vx_MQ below (QX cy D B (Sum.map (fun x => some (Value.int x)) id res.1) res.2 μ ω) (XCX cy D B (Sum.map (fun x => some (Value.int x)) id res.1) res.2 μ ω) args s 1 6 (aB B)) pc9 lcs9 st9 res.2 μ ω k9 := fun k9 hx9 cells9 slots9 pc9 lcs9 st9 h1 h2 => by rw [hx9]; exact x_out C htab hlk h1 h2
  generalize (vx_MQ below (QX cy D B (Sum.map (fun x => some (Value.int x)) id res.1) res.2 μ ω) (XCX cy D B (Sum.map (fun x => some (Value.int x)) id res.1) res.2 μ ω) args s 1 6 (aB B)) = Q at hret hthr hout ⊢
  obtain ⟨R, hR9⟩ : ∃ R : Room, R = ({ frames := 6, cells := 1, slots := 6, locals := 122 } : Room) := ⟨_, rfl⟩
  rw [← hR9] at hret hthr hout ⊢
  unfold fX5_undo at h
  show X p l e R s m args below meth c 1 cy D B 0 0 Q 0 [(0, .ref (B + oHB))] [] σ μ ω
  refine x_aload_n C dX5_undo_0 rfl 0 rfl ?_
  refine x_get C (C1 := "HostelBeds") (T := TX5) (N := 12) (ci := 5) inXg5 _ (c_HB) rfl 8 (by decide) (lw_g_mk tw_295 rfl) rfl dX5_undo_1 ?_
  refine x_if_ne C (tgt := 18) dX5_undo_4 (by decide) (fun hc1 => ?_) (fun hc1 => ?_)
  · rw [if_pos hc1] at h
    refine x_aload_n C dX5_undo_18 rfl 0 rfl ?_
    refine x_dup C dX5_undo_19 rfl ?_
    refine x_get C (C1 := "HostelBeds") (T := TX5) (N := 12) (ci := 5) inXg5 _ (c_HB) rfl 8 (by decide) (lw_g_mk tw_295 rfl) rfl dX5_undo_20 ?_
    refine x_iconst C (v := 1) dX5_undo_23 (by decide) ?_
    refine x_isub C dX5_undo_24 ?_
    refine x_put C (C1 := "HostelBeds") (T := TX5) (N := 12) (ci := 5) inXg5 tyX5 tyX5_ok nmX5 _ (c_HB) rfl 8 (by decide) (lw_g_mk tw_295 rfl) rfl rfl rfl rfl (Nat.le_of_ble_eq_true rfl) dX5_undo_25 (s_HB_pastCount) ?_
    refine x_aload_n C dX5_undo_28 rfl 0 rfl ?_
    refine x_aload_n C dX5_undo_29 rfl 0 rfl ?_
    refine x_get C (C1 := "HostelBeds") (T := TX5) (N := 12) (ci := 5) inXg5 _ (c_HB) rfl 7 (by decide) (lw_g_mk tw_294 rfl) rfl dX5_undo_30 ?_
    have hJ7 : ∀ (t1 : Int32) (r9 : (Int32 ⊕ Nat) × Mem), jX5_undo_52 σ t1 = some r9 → (∀ (x9 : Int32), r9.1 = .inl x9 → ∀ (cells9 slots9 pc9 : Nat) (lcs9 : List (Nat × Value)), decode cX5_undo pc9 = .ok (.ireturn, 1) → narrow .int (.int x9) = .int x9 → cells9 ≤ 1 → slots9 ≤ 6 → X p l e R s m args below meth c 1 cy D B cells9 slots9 Q pc9 lcs9 [.int x9] r9.2 μ ω) → (∀ (k9 : Nat), r9.1 = .inr k9 → ∀ (cells9 slots9 pc9 : Nat) (lcs9 : List (Nat × Value)), (ThrowS "HostelBeds" cX5_undo pc9 k9 ∨ ThrowSW "HostelBeds" cX5_undo pc9 k9 ∨ ThrowN "HostelBeds" cX5_undo pc9 k9) → cells9 + 1 ≤ 1 → slots9 + 6 ≤ 6 → X p l e R s m args below meth c 1 cy D B cells9 slots9 Q pc9 lcs9 [] r9.2 μ ω) → (∀ (k9 : Nat), r9.1 = .inr k9 → ∀ (cells9 slots9 pc9 : Nat) (lcs9 : List (Nat × Value)) (st9 : List Value), cells9 ≤ 1 → slots9 ≤ 6 → XO p l e R s m args below meth c 1 cy D B cells9 slots9 Q pc9 lcs9 st9 r9.2 μ ω k9) → X p l e R s m args below meth c 1 cy D B 0 0 Q 52 [(0, .ref (B + oHB))] [.int t1, .ref (B + oHB)] (wI σ 3 0 0 ((rI σ 3 0 0) - (1 : Int32))) μ ω := by
      intro t1 res9 h hret hthr hout
      unfold jX5_undo_52 at h
      refine x_put C (C1 := "HostelBeds") (T := TX5) (N := 12) (ci := 5) inXg5 tyX5 tyX5_ok nmX5 _ (c_HB) rfl 7 (by decide) (lw_g_mk tw_294 rfl) rfl rfl rfl rfl (Nat.le_of_ble_eq_true rfl) dX5_undo_52 (s_HB_pastNext) ?_
      refine x_aload_n C dX5_undo_55 rfl 0 rfl ?_
      refine x_get C (C1 := "HostelBeds") (T := TX5) (N := 12) (ci := 5) inXg5 _ (c_HB) rfl 2 (by decide) (lw_g_mk tw_289 rfl) rfl dX5_undo_56 ?_
      obtain ⟨hg2, h⟩ := gd_some h
      refine x_aload_n C dX5_undo_59 rfl 0 rfl ?_
      refine x_get C (C1 := "HostelBeds") (T := TX5) (N := 12) (ci := 5) inXg5 _ (c_HB) rfl 6 (by decide) (lw_g_mk tw_293 rfl) rfl dX5_undo_60 ?_
      refine x_aload_n C dX5_undo_63 rfl 0 rfl ?_
      refine x_get C (C1 := "HostelBeds") (T := TX5) (N := 12) (ci := 5) inXg5 _ (c_HB) rfl 7 (by decide) (lw_g_mk tw_294 rfl) rfl dX5_undo_64 ?_
      obtain ⟨hg3, h⟩ := gd_some h
      refine x_aldq C _ 7 (C1 := "HostelBeds$Hostel") (c_Past) rfl hg3 rfl dX5_undo_67 ?_
      obtain ⟨q2, hk4, h⟩ := Option.bind_eq_some_iff.mp h
      refine x_callV C (As := [.ref (B + oHo ((rI (wI (wI σ 3 0 0 ((rI σ 3 0 0) - (1 : Int32))) 2 0 0 t1) 2 0 0).toNatClampNeg + 2))]) (rest := []) (lw_g_mk tw_363 rfl) (lw_g_mk tw_364 rfl) (c_Ho hg2) (C1 := "HostelBeds$Hostel") (T := TX1) (N := 12) (ci := 1) rfl (okX1_copy l cy D B ek (rP (wI (wI σ 3 0 0 ((rI σ 3 0 0) - (1 : Int32))) 2 0 0 t1) 0) ((rI (wI (wI σ 3 0 0 ((rI σ 3 0 0) - (1 : Int32))) 2 0 0 t1) 2 0 0).toNatClampNeg + 2) (wI (wI σ 3 0 0 ((rI σ 3 0 0) - (1 : Int32))) 2 0 0 t1) μ ω hg2 (past_lt hg3) _ hk4) rfl rfl (by rw [hR9]; decide) (lw_g_mk tw_365 rfl) (lw_g_mk tw_3 rfl) (by decide) rfl (lw_g_mk tw_362 rfl) rfl (Nat.le_of_ble_eq_true rfl) dX5_undo_68 (by rw [hR9]; decide) ?_
      refine x_aload_n C dX5_undo_71 rfl 0 rfl ?_
      refine x_get C (C1 := "HostelBeds") (T := TX5) (N := 12) (ci := 5) inXg5 _ (c_HB) rfl 4 (by decide) (lw_g_mk tw_291 rfl) rfl dX5_undo_72 ?_
      refine x_aload_n C dX5_undo_75 rfl 0 rfl ?_
      refine x_get C (C1 := "HostelBeds") (T := TX5) (N := 12) (ci := 5) inXg5 _ (c_HB) rfl 2 (by decide) (lw_g_mk tw_289 rfl) rfl dX5_undo_76 ?_
      obtain ⟨hg5, h⟩ := gd_some h
      obtain ⟨q3, hk6, h⟩ := Option.bind_eq_some_iff.mp h
      refine x_callV C (As := [.ref (B + oHo (rP q2 0))]) (rest := []) (lw_g_mk tw_413 rfl) (lw_g_mk tw_414 rfl) (c_Pl (by decide)) (C1 := "HostelBeds$Plan") (T := TX3) (N := 8) (ci := 3) rfl (okX3_make l cy D B ek 0 (rP q2 0) q2 μ ω (by decide) hg5 _ hk6) rfl rfl (by rw [hR9]; decide) (lw_g_mk tw_415 rfl) (lw_g_mk tw_6 rfl) (by decide) rfl (lw_g_mk tw_412 rfl) rfl (Nat.le_of_ble_eq_true rfl) dX5_undo_79 (by rw [hR9]; decide) ?_
      refine x_aload_n C dX5_undo_82 rfl 0 rfl ?_
      refine x_get C (C1 := "HostelBeds") (T := TX5) (N := 12) (ci := 5) inXg5 _ (c_HB) rfl 8 (by decide) (lw_g_mk tw_295 rfl) rfl dX5_undo_83 ?_
      cases h
      exact hret _ rfl _ _ _ _ dX5_undo_86 rfl (by decide) (by decide)
    refine x_if_ne C (tgt := 46) dX5_undo_33 (by decide) (fun hc8 => ?_) (fun hc8 => ?_)
    · rw [if_pos hc8] at h
      refine x_aload_n C dX5_undo_46 rfl 0 rfl ?_
      refine x_get C (C1 := "HostelBeds") (T := TX5) (N := 12) (ci := 5) inXg5 _ (c_HB) rfl 7 (by decide) (lw_g_mk tw_294 rfl) rfl dX5_undo_47 ?_
      refine x_iconst C (v := 1) dX5_undo_50 (by decide) ?_
      refine x_isub C dX5_undo_51 ?_
      exact hJ7 ((rI (wI σ 3 0 0 ((rI σ 3 0 0) - (1 : Int32))) 2 0 0) - (1 : Int32)) _ h hret hthr hout
    · rw [if_neg hc8] at h
      refine x_aload_n C dX5_undo_36 rfl 0 rfl ?_
      refine x_get C (C1 := "HostelBeds") (T := TX5) (N := 12) (ci := 5) inXg5 _ (c_HB) rfl 6 (by decide) (lw_g_mk tw_293 rfl) rfl dX5_undo_37 ?_
      refine x_alen C _ 7 (c_Past) rfl (v := 10) rfl dX5_undo_40 ?_
      refine x_iconst C (v := 1) dX5_undo_41 (by decide) ?_
      refine x_isub C dX5_undo_42 ?_
      refine x_goto C (tgt := 52) dX5_undo_43 (by decide) ?_
      exact hJ7 ((10 : Int32) - (1 : Int32)) _ h hret hthr hout
  · rw [if_neg hc1] at h
    cases h
    exact hthr _ rfl _ _ _ _ (Or.inr (Or.inl ⟨55, 322, 59, "no edit can be undone", dX5_undo_7, dX5_undo_10, dX5_undo_11, dX5_undo_14, dX5_undo_17, lw_g_mk tw_477 rfl, lw_g_mk tw_11 rfl, (by decide +kernel), (by decide +kernel), (by decide +kernel), hat_1, hgood_1⟩)) (by decide) (by decide)
def fX5_putSign (p1 : Int32) (σ : Mem) : Option (Mem) := (if (160 : Int32) ≤ (rI σ 4 0 0) then (some σ) else (gd (inb (rI σ 4 0 0) 160) (some (wI (wI σ 5 0 (rI σ 4 0 0).toNatClampNeg (vp_nar .char p1)) 4 0 0 ((rI (wI σ 5 0 (rI σ 4 0 0).toNatClampNeg (vp_nar .char p1)) 4 0 0) + (1 : Int32))))))
set_option maxHeartbeats 4000000 in
set_option maxRecDepth 100000 in
theorem okX5_putSign (l : Launch) (cy : Nat → ClassId) (D : va_G) (B : Nat) (ek : EK) (p1 : Int32) (σ μ ω : Mem) (res : Mem) (h : fX5_putSign p1 σ = some res) : CT l cy D B ek yX5_putSign cX5_putSign 2 none ({ frames := 0, cells := 0, slots := 0, locals := 0 } : Room) [.ref (B + oHB), .int p1] σ μ ω none res μ ω := by
  refine met_X (own := "HostelBeds") (by decide) rfl (Nat.le_of_ble_eq_true rfl) ?_
  intro p e s m args below meth c C hrT hlk
  have hret : ∀ (pc9 : Nat) (lcs9 : List (Nat × Value)), decode cX5_putSign pc9 = .ok (.return_, 1) → X p l e ({ frames := 0, cells := 0, slots := 0, locals := 0 } : Room) s m args below meth c 2 cy D B 0 0 (MQ below (QR cy D B none res μ ω) args s 0 0 (aB B)) pc9 lcs9 [] res μ ω := fun _ _ hd => x_vret C hrT hlk hd
  generalize (MQ below (QR cy D B none res μ ω) args s 0 0 (aB B)) = Q at hret ⊢
  obtain ⟨R, hR9⟩ : ∃ R : Room, R = ({ frames := 0, cells := 0, slots := 0, locals := 0 } : Room) := ⟨_, rfl⟩
  rw [← hR9] at hret ⊢
  unfold fX5_putSign at h
  show X p l e R s m args below meth c 2 cy D B 0 0 Q 0 [(0, .ref (B + oHB)), (1, .int p1)] [] σ μ ω
  refine x_aload_n C dX5_putSign_0 rfl 0 rfl ?_
  refine x_get C (C1 := "HostelBeds") (T := TX5) (N := 12) (ci := 5) inXg5 _ (c_HB) rfl 11 (by decide) (lw_g_mk tw_298 rfl) rfl dX5_putSign_1 ?_
  refine x_aload_n C dX5_putSign_4 rfl 0 rfl ?_
  refine x_get C (C1 := "HostelBeds") (T := TX5) (N := 12) (ci := 5) inXg5 _ (c_HB) rfl 10 (by decide) (lw_g_mk tw_297 rfl) rfl dX5_putSign_5 ?_
  refine x_alen C _ 3 (c_Signs) rfl (v := 160) rfl dX5_putSign_8 ?_
  refine x_icmp_ge C (tgt := 32) dX5_putSign_9 (by decide) (fun hc1 => ?_) (fun hc1 => ?_)
  · rw [if_pos hc1] at h
    cases h
    exact hret _ _ dX5_putSign_32
  · rw [if_neg hc1] at h
    refine x_aload_n C dX5_putSign_12 rfl 0 rfl ?_
    refine x_get C (C1 := "HostelBeds") (T := TX5) (N := 12) (ci := 5) inXg5 _ (c_HB) rfl 10 (by decide) (lw_g_mk tw_297 rfl) rfl dX5_putSign_13 ?_
    refine x_aload_n C dX5_putSign_16 rfl 0 rfl ?_
    refine x_get C (C1 := "HostelBeds") (T := TX5) (N := 12) (ci := 5) inXg5 _ (c_HB) rfl 11 (by decide) (lw_g_mk tw_298 rfl) rfl dX5_putSign_17 ?_
    refine x_iload_n C dX5_putSign_20 rfl 1 rfl ?_
    obtain ⟨hg2, h⟩ := gd_some h
    refine x_cast C _ (c_Signs) hg2 dX5_putSign_21 (s_Signs) ?_
    refine x_aload_n C dX5_putSign_22 rfl 0 rfl ?_
    refine x_dup C dX5_putSign_23 rfl ?_
    refine x_get C (C1 := "HostelBeds") (T := TX5) (N := 12) (ci := 5) inXg5 _ (c_HB) rfl 11 (by decide) (lw_g_mk tw_298 rfl) rfl dX5_putSign_24 ?_
    refine x_iconst C (v := 1) dX5_putSign_27 (by decide) ?_
    refine x_iadd C dX5_putSign_28 ?_
    refine x_put C (C1 := "HostelBeds") (T := TX5) (N := 12) (ci := 5) inXg5 tyX5 tyX5_ok nmX5 _ (c_HB) rfl 11 (by decide) (lw_g_mk tw_298 rfl) rfl rfl rfl rfl (Nat.le_of_ble_eq_true rfl) dX5_putSign_29 (s_HB_signCount) ?_
    cases h
    exact hret _ _ dX5_putSign_32
def jX5_putName_29 (a3 : Int32 × Mem) (σ1 : Mem) : Option ((Int32 × Mem) ⊕ (Mem)) := (some (.inl (a3.1 + (-8 : Int32), σ1)))
def stX5_putName_3 (p1 : Int64) (a3 : Int32 × Mem) : Option ((Int32 × Mem) ⊕ (Mem)) := (if a3.1 < 0 then (some (.inr a3.2)) else (if ((((p1.toUInt64 >>> (a3.1.toInt64.toUInt64 &&& Int64.toUInt64 63)).toInt64).toInt32) &&& (255 : Int32)) = 0 then (jX5_putName_29 a3 a3.2) else ((fX5_putSign ((((((p1.toUInt64 >>> (a3.1.toInt64.toUInt64 &&& Int64.toUInt64 63)).toInt64).toInt32) &&& (255 : Int32)).toUInt32 % 65536).toInt32) a3.2).bind fun q2 => (jX5_putName_29 a3 q2))))
def fX5_putName (p1 : Int64) (σ : Mem) : Option (Mem) := ((loop (stX5_putName_3 p1) 5000 ((56 : Int32), σ)).bind fun b3 => (some b3))
set_option maxHeartbeats 4000000 in
set_option maxRecDepth 100000 in
theorem okX5_putName (l : Launch) (cy : Nat → ClassId) (D : va_G) (B : Nat) (ek : EK) (p1 : Int64) (σ μ ω : Mem) (res : Mem) (h : fX5_putName p1 σ = some res) : CT l cy D B ek yX5_putName cX5_putName 5 none ({ frames := 1, cells := 0, slots := 0, locals := 21 } : Room) [.ref (B + oHB), .long p1] σ μ ω none res μ ω := by
  refine met_X (own := "HostelBeds") (by decide) rfl (Nat.le_of_ble_eq_true rfl) ?_
  intro p e s m args below meth c C hrT hlk
  have hret : ∀ (pc9 : Nat) (lcs9 : List (Nat × Value)), decode cX5_putName pc9 = .ok (.return_, 1) → X p l e ({ frames := 1, cells := 0, slots := 0, locals := 21 } : Room) s m args below meth c 5 cy D B 0 0 (MQ below (QR cy D B none res μ ω) args s 0 0 (aB B)) pc9 lcs9 [] res μ ω := fun _ _ hd => x_vret C hrT hlk hd
  generalize (MQ below (QR cy D B none res μ ω) args s 0 0 (aB B)) = Q at hret ⊢
  obtain ⟨R, hR9⟩ : ∃ R : Room, R = ({ frames := 1, cells := 0, slots := 0, locals := 21 } : Room) := ⟨_, rfl⟩
  rw [← hR9] at hret ⊢
  unfold fX5_putName at h
  show X p l e R s m args below meth c 5 cy D B 0 0 Q 0 [(0, .ref (B + oHB)), (1, .long p1)] [] σ μ ω
  refine x_bipush C (v := 56) dX5_putName_0 (by decide) ?_
  refine x_istore_n C [(3, .int (56 : Int32)), (0, .ref (B + oHB)), (1, .long p1)] dX5_putName_2 rfl (by decide) rfl ?_
  obtain ⟨b3, hk7, h⟩ := Option.bind_eq_some_iff.mp h
  refine x_sub [1, 2, 0] rfl ?_
  refine loop_run (step := stX5_putName_3 p1) (P := fun (a3 : Int32 × Mem) => X p l e R s m args below meth c 5 cy D B 0 0 Q 3 [(0, .ref (B + oHB)), (1, .long p1), (3, .int a3.1)] [] a3.2 μ ω) (K := fun (b3 : Mem) => X p l e R s m args below meth c 5 cy D B 0 0 Q 35 [] [] b3 μ ω) ?_ 5000 ((56 : Int32), σ) b3 hk7 ?_
  · intro a3 r h hA1 hB2
    unfold stX5_putName_3 at h
    refine x_iload_n C dX5_putName_3 rfl 2 rfl ?_
    refine x_if_lt C (tgt := 35) dX5_putName_4 (by decide) (fun hc3 => ?_) (fun hc3 => ?_)
    · rw [if_pos hc3] at h
      cases h
      refine x_sub [] rfl ?_
      exact hB2 a3.2 rfl
    · rw [if_neg hc3] at h
      refine x_lload_n C dX5_putName_7 rfl 1 rfl ?_
      refine x_iload_n C dX5_putName_8 rfl 2 rfl ?_
      refine x_lushr C dX5_putName_9 ?_
      refine x_l2i C dX5_putName_10 ?_
      refine x_sipush C (v := 255) dX5_putName_11 (by decide) ?_
      refine x_iand C dX5_putName_14 ?_
      refine x_istore C [(4, .int ((((p1.toUInt64 >>> (a3.1.toInt64.toUInt64 &&& Int64.toUInt64 63)).toInt64).toInt32) &&& (255 : Int32))), (0, .ref (B + oHB)), (1, .long p1), (3, .int a3.1)] dX5_putName_15 (by decide) rfl ?_
      refine x_iload C dX5_putName_17 0 rfl ?_
      have hJ4 : ∀ (σ1 : Mem) (r9 : (Int32 × Mem) ⊕ (Mem)), jX5_putName_29 a3 σ1 = some r9 → (∀ a2, r9 = .inl a2 → (fun (a3 : Int32 × Mem) => X p l e R s m args below meth c 5 cy D B 0 0 Q 3 [(0, .ref (B + oHB)), (1, .long p1), (3, .int a3.1)] [] a3.2 μ ω) a2) → (∀ b2, r9 = .inr b2 → (fun (b3 : Mem) => X p l e R s m args below meth c 5 cy D B 0 0 Q 35 [] [] b3 μ ω) b2) → X p l e R s m args below meth c 5 cy D B 0 0 Q 29 [(0, .ref (B + oHB)), (1, .long p1), (3, .int a3.1)] [] σ1 μ ω := by
        intro σ1 r h hA1 hB2
        unfold jX5_putName_29 at h
        refine x_iinc C (k := 2) [(3, .int (a3.1 + (-8 : Int32))), (0, .ref (B + oHB)), (1, .long p1)] dX5_putName_29 rfl rfl (by decide) rfl ?_
        refine x_goto C (tgt := 3) dX5_putName_32 (by decide) ?_
        cases h
        refine x_sub [1, 2, 0] rfl ?_
        exact hA1 (a3.1 + (-8 : Int32), σ1) rfl
      refine x_if_eq C (tgt := 29) dX5_putName_19 (by decide) (fun hc5 => ?_) (fun hc5 => ?_)
      · rw [if_pos hc5] at h
        refine x_sub [1, 2, 3] rfl ?_
        exact hJ4 a3.2 _ h hA1 hB2
      · rw [if_neg hc5] at h
        refine x_aload_n C dX5_putName_22 rfl 1 rfl ?_
        refine x_iload C dX5_putName_23 0 rfl ?_
        refine x_i2c C dX5_putName_25 ?_
        obtain ⟨q2, hk6, h⟩ := Option.bind_eq_some_iff.mp h
        refine x_callV C (As := [.int ((((((p1.toUInt64 >>> (a3.1.toInt64.toUInt64 &&& Int64.toUInt64 63)).toInt64).toInt32) &&& (255 : Int32)).toUInt32 % 65536).toInt32)]) (rest := []) (lw_g_mk tw_1095 rfl) (lw_g_mk tsel_12 rfl) (c_HB) (C1 := "HostelBeds") (T := TX5) (N := 12) (ci := 5) rfl (okX5_putSign l cy D B ek ((((((p1.toUInt64 >>> (a3.1.toInt64.toUInt64 &&& Int64.toUInt64 63)).toInt64).toInt32) &&& (255 : Int32)).toUInt32 % 65536).toInt32) a3.2 μ ω _ hk6) rfl rfl (by rw [hR9]; decide) (lw_g_mk tw_1096 rfl) (lw_g_mk tw_1 rfl) (by decide) rfl (lw_g_mk tw_1093 rfl) rfl (Nat.le_of_ble_eq_true rfl) dX5_putName_26 (by rw [hR9]; decide) ?_
        refine x_sub [1, 2, 3] rfl ?_
        exact hJ4 q2 _ h hA1 hB2
  · show X p l e R s m args below meth c 5 cy D B 0 0 Q 35 [] [] b3 μ ω
    cases h
    exact hret _ _ dX5_putName_35
def jX5_putNumber_39 (p1 : Int32) (σ2 : Mem) : Option (Mem) := ((fX5_putSign ((((48 : Int32) + (p1 - p1 / (10 : Int32) * (10 : Int32))).toUInt32 % 65536).toInt32) σ2).bind fun q3 => (some q3))
def jX5_putNumber_18 (p1 : Int32) (σ1 : Mem) : Option (Mem) := (if p1 < (10 : Int32) then (jX5_putNumber_39 p1 σ1) else ((fX5_putSign ((((48 : Int32) + ((p1 / (10 : Int32)) - (p1 / (10 : Int32)) / (10 : Int32) * (10 : Int32))).toUInt32 % 65536).toInt32) σ1).bind fun q4 => (jX5_putNumber_39 p1 q4)))
def fX5_putNumber (p1 : Int32) (σ : Mem) : Option (Mem) := (if p1 < (100 : Int32) then (jX5_putNumber_18 p1 σ) else ((fX5_putSign ((((48 : Int32) + (p1 / (100 : Int32))).toUInt32 % 65536).toInt32) σ).bind fun q5 => (jX5_putNumber_18 p1 q5)))
set_option maxHeartbeats 4000000 in
set_option maxRecDepth 100000 in
theorem okX5_putNumber (l : Launch) (cy : Nat → ClassId) (D : va_G) (B : Nat) (ek : EK) (p1 : Int32) (σ μ ω : Mem) (res : Mem) (h : fX5_putNumber p1 σ = some res) : CT l cy D B ek yX5_putNumber cX5_putNumber 2 none ({ frames := 1, cells := 0, slots := 0, locals := 21 } : Room) [.ref (B + oHB), .int p1] σ μ ω none res μ ω := by
  refine met_X (own := "HostelBeds") (by decide) rfl (Nat.le_of_ble_eq_true rfl) ?_
  intro p e s m args below meth c C hrT hlk
  have hret : ∀ (pc9 : Nat) (lcs9 : List (Nat × Value)), decode cX5_putNumber pc9 = .ok (.return_, 1) → X p l e ({ frames := 1, cells := 0, slots := 0, locals := 21 } : Room) s m args below meth c 2 cy D B 0 0 (MQ below (QR cy D B none res μ ω) args s 0 0 (aB B)) pc9 lcs9 [] res μ ω := fun _ _ hd => x_vret C hrT hlk hd
  generalize (MQ below (QR cy D B none res μ ω) args s 0 0 (aB B)) = Q at hret ⊢
  obtain ⟨R, hR9⟩ : ∃ R : Room, R = ({ frames := 1, cells := 0, slots := 0, locals := 21 } : Room) := ⟨_, rfl⟩
  rw [← hR9] at hret ⊢
  unfold fX5_putNumber at h
  show X p l e R s m args below meth c 2 cy D B 0 0 Q 0 [(0, .ref (B + oHB)), (1, .int p1)] [] σ μ ω
  refine x_iload_n C dX5_putNumber_0 rfl 1 rfl ?_
  refine x_bipush C (v := 100) dX5_putNumber_1 (by decide) ?_
  have hJ5 : ∀ (σ1 : Mem) (r9 : Mem), jX5_putNumber_18 p1 σ1 = some r9 → (∀ (pc9 : Nat) (lcs9 : List (Nat × Value)), decode cX5_putNumber pc9 = .ok (.return_, 1) → X p l e R s m args below meth c 2 cy D B 0 0 Q pc9 lcs9 [] r9 μ ω) → X p l e R s m args below meth c 2 cy D B 0 0 Q 18 [(0, .ref (B + oHB)), (1, .int p1)] [] σ1 μ ω := by
    intro σ1 res9 h hret
    unfold jX5_putNumber_18 at h
    refine x_iload_n C dX5_putNumber_18 rfl 1 rfl ?_
    refine x_bipush C (v := 10) dX5_putNumber_19 (by decide) ?_
    have hJ2 : ∀ (σ2 : Mem) (r9 : Mem), jX5_putNumber_39 p1 σ2 = some r9 → (∀ (pc9 : Nat) (lcs9 : List (Nat × Value)), decode cX5_putNumber pc9 = .ok (.return_, 1) → X p l e R s m args below meth c 2 cy D B 0 0 Q pc9 lcs9 [] r9 μ ω) → X p l e R s m args below meth c 2 cy D B 0 0 Q 39 [(0, .ref (B + oHB)), (1, .int p1)] [] σ2 μ ω := by
      intro σ2 res9 h hret
      unfold jX5_putNumber_39 at h
      refine x_aload_n C dX5_putNumber_39 rfl 0 rfl ?_
      refine x_bipush C (v := 48) dX5_putNumber_40 (by decide) ?_
      refine x_iload_n C dX5_putNumber_42 rfl 1 rfl ?_
      refine x_bipush C (v := 10) dX5_putNumber_43 (by decide) ?_
      refine x_irem C dX5_putNumber_45 (by decide) ?_
      refine x_iadd C dX5_putNumber_46 ?_
      refine x_i2c C dX5_putNumber_47 ?_
      obtain ⟨q3, hk1, h⟩ := Option.bind_eq_some_iff.mp h
      refine x_callV C (As := [.int ((((48 : Int32) + (p1 - p1 / (10 : Int32) * (10 : Int32))).toUInt32 % 65536).toInt32)]) (rest := []) (lw_g_mk tw_1095 rfl) (lw_g_mk tsel_12 rfl) (c_HB) (C1 := "HostelBeds") (T := TX5) (N := 12) (ci := 5) rfl (okX5_putSign l cy D B ek ((((48 : Int32) + (p1 - p1 / (10 : Int32) * (10 : Int32))).toUInt32 % 65536).toInt32) σ2 μ ω _ hk1) rfl rfl (by rw [hR9]; decide) (lw_g_mk tw_1096 rfl) (lw_g_mk tw_1 rfl) (by decide) rfl (lw_g_mk tw_1093 rfl) rfl (Nat.le_of_ble_eq_true rfl) dX5_putNumber_48 (by rw [hR9]; decide) ?_
      cases h
      exact hret _ _ dX5_putNumber_51
    refine x_icmp_lt C (tgt := 39) dX5_putNumber_21 (by decide) (fun hc3 => ?_) (fun hc3 => ?_)
    · rw [if_pos hc3] at h
      exact hJ2 σ1 _ h hret
    · rw [if_neg hc3] at h
      refine x_aload_n C dX5_putNumber_24 rfl 0 rfl ?_
      refine x_bipush C (v := 48) dX5_putNumber_25 (by decide) ?_
      refine x_iload_n C dX5_putNumber_27 rfl 1 rfl ?_
      refine x_bipush C (v := 10) dX5_putNumber_28 (by decide) ?_
      refine x_idiv C dX5_putNumber_30 (by decide) ?_
      refine x_bipush C (v := 10) dX5_putNumber_31 (by decide) ?_
      refine x_irem C dX5_putNumber_33 (by decide) ?_
      refine x_iadd C dX5_putNumber_34 ?_
      refine x_i2c C dX5_putNumber_35 ?_
      obtain ⟨q4, hk4, h⟩ := Option.bind_eq_some_iff.mp h
      refine x_callV C (As := [.int ((((48 : Int32) + ((p1 / (10 : Int32)) - (p1 / (10 : Int32)) / (10 : Int32) * (10 : Int32))).toUInt32 % 65536).toInt32)]) (rest := []) (lw_g_mk tw_1095 rfl) (lw_g_mk tsel_12 rfl) (c_HB) (C1 := "HostelBeds") (T := TX5) (N := 12) (ci := 5) rfl (okX5_putSign l cy D B ek ((((48 : Int32) + ((p1 / (10 : Int32)) - (p1 / (10 : Int32)) / (10 : Int32) * (10 : Int32))).toUInt32 % 65536).toInt32) σ1 μ ω _ hk4) rfl rfl (by rw [hR9]; decide) (lw_g_mk tw_1096 rfl) (lw_g_mk tw_1 rfl) (by decide) rfl (lw_g_mk tw_1093 rfl) rfl (Nat.le_of_ble_eq_true rfl) dX5_putNumber_36 (by rw [hR9]; decide) ?_
      exact hJ2 q4 _ h hret
  refine x_icmp_lt C (tgt := 18) dX5_putNumber_3 (by decide) (fun hc6 => ?_) (fun hc6 => ?_)
  · rw [if_pos hc6] at h
    exact hJ5 σ _ h hret
  · rw [if_neg hc6] at h
    refine x_aload_n C dX5_putNumber_6 rfl 0 rfl ?_
    refine x_bipush C (v := 48) dX5_putNumber_7 (by decide) ?_
    refine x_iload_n C dX5_putNumber_9 rfl 1 rfl ?_
    refine x_bipush C (v := 100) dX5_putNumber_10 (by decide) ?_
    refine x_idiv C dX5_putNumber_12 (by decide) ?_
    refine x_iadd C dX5_putNumber_13 ?_
    refine x_i2c C dX5_putNumber_14 ?_
    obtain ⟨q5, hk7, h⟩ := Option.bind_eq_some_iff.mp h
    refine x_callV C (As := [.int ((((48 : Int32) + (p1 / (100 : Int32))).toUInt32 % 65536).toInt32)]) (rest := []) (lw_g_mk tw_1095 rfl) (lw_g_mk tsel_12 rfl) (c_HB) (C1 := "HostelBeds") (T := TX5) (N := 12) (ci := 5) rfl (okX5_putSign l cy D B ek ((((48 : Int32) + (p1 / (100 : Int32))).toUInt32 % 65536).toInt32) σ μ ω _ hk7) rfl rfl (by rw [hR9]; decide) (lw_g_mk tw_1096 rfl) (lw_g_mk tw_1 rfl) (by decide) rfl (lw_g_mk tw_1093 rfl) rfl (Nat.le_of_ble_eq_true rfl) dX5_putNumber_15 (by rw [hR9]; decide) ?_
    exact hJ5 q5 _ h hret
def jX5_format_38 (a11 : Int32 × Mem) (p1 : Int32) (σ4 : Mem) : Option ((Int32 × Mem) ⊕ (Mem)) := (gd (rP σ4 0 < 12) (gd (inb a11.1 8) ((fX5_putName (rJ σ4 1 (rP σ4 0) a11.1.toNatClampNeg) σ4).bind fun q5 => ((fX5_putSign (32 : Int32) q5).bind fun q6 => ((fX3_taken 0 a11.1 p1 q6).bind fun q7 => ((fX5_putNumber q7 q6).bind fun q8 => ((fX5_putSign (47 : Int32) q8).bind fun q9 => (gd (rP q9 0 < 12) ((fX5_putNumber (rI q9 31 (rP q9 0) a11.1.toNatClampNeg) q9).bind fun q10 => (some (.inl (a11.1 + (1 : Int32), q10))))))))))))
def stX5_format_11 (p1 : Int32) (a11 : Int32 × Mem) : Option ((Int32 × Mem) ⊕ (Mem)) := (gd (rP a11.2 0 < 12) (if (rI a11.2 20 (rP a11.2 0) 0) ≤ a11.1 then (some (.inr a11.2)) else (if a11.1 ≤ 0 then (jX5_format_38 a11 p1 a11.2) else ((fX5_putSign (44 : Int32) a11.2).bind fun q11 => ((fX5_putSign (32 : Int32) q11).bind fun q12 => (jX5_format_38 a11 p1 q12))))))
def jX5_format_128 (σ14 : Mem) : Option ((Int32 ⊕ Nat) × Mem) := (some (.inl (rI σ14 4 0 0), σ14))
def fX5_format (p1 : Int32) (σ : Mem) : Option ((Int32 ⊕ Nat) × Mem) := ((fX5_checkNight p1).bind fun q1 => Sum.elim (fun x2 => ((loop (stX5_format_11 p1) 5000 ((0 : Int32), wI σ 4 0 0 (0 : Int32))).bind fun b11 => ((fX5_walkedPersons p1 b11).bind fun q13 => (if q13 ≤ 0 then (jX5_format_128 b11) else ((fX5_putSign (32 : Int32) b11).bind fun q15 => ((fX5_putSign (43 : Int32) q15).bind fun q16 => ((fX5_putNumber q13 q16).bind fun q17 => (jX5_format_128 q17)))))))) (fun e3 => (some (.inr e3, σ))) q1)
set_option maxHeartbeats 4000000 in
set_option maxRecDepth 100000 in
theorem okX5_format (l : Launch) (hlf : l.stackTraces = false) (cy : Nat → ClassId) (D : va_G) (B : Nat) (ek : EK) (p1 : Int32) (σ μ ω : Mem) (res : (Int32 ⊕ Nat) × Mem) (h : fX5_format p1 σ = some res) : CTX l cy D B ek yX5_format cX5_format 3 (some .int) ({ frames := 7, cells := 1, slots := 6, locals := 140 } : Room) 1 6 [.ref (B + oHB), .int p1] σ μ ω (Sum.map (fun x => some (Value.int x)) id res.1) res.2 μ ω := by
  refine met_XX (own := "HostelBeds") (by decide) rfl (Nat.le_of_ble_eq_true rfl) ?_
  intro p e s m args below meth c C hrT hlk htab
  have hret : ∀ (x9 : Int32), res.1 = .inl x9 → ∀ (cells9 slots9 pc9 : Nat) (lcs9 : List (Nat × Value)), decode cX5_format pc9 = .ok (.ireturn, 1) → narrow .int (.int x9) = .int x9 → cells9 ≤ 1 → slots9 ≤ 6 → X p l e ({ frames := 7, cells := 1, slots := 6, locals := 140 } : Room) s m args below meth c 3 cy D B cells9 slots9 (vx_MQ below (QX cy D B (Sum.map (fun x => some (Value.int x)) id res.1) res.2 μ ω) (XCX cy D B (Sum.map (fun x => some (Value.int x)) id res.1) res.2 μ ω) args s 1 6 (aB B)) pc9 lcs9 [.int x9] res.2 μ ω := fun x9 hx9 cells9 slots9 pc9 lcs9 hd hn h1 h2 => by rw [hx9]; exact x_zretX C hrT hlk hn hd h1 h2
  have hout : ∀ (k9 : Nat), res.1 = .inr k9 → ∀ (cells9 slots9 pc9 : Nat) (lcs9 : List (Nat × Value)) (st9 : List Value), cells9 ≤ 1 → slots9 ≤ 6 → XO p l e ({ frames := 7, cells := 1, slots := 6, locals := 140 } : Room) s m args below meth c 3 cy D B cells9 slots9 (vx_MQ below (QX cy D B (Sum.map (fun x => some (Value.int x)) id res.1) res.2 μ ω) (XCX cy D B (Sum.map (fun x => some (Value.int x)) id res.1) res.2 μ ω) args s 1 6 (aB B)) pc9 lcs9 st9 res.2 μ ω k9 := fun k9 hx9 cells9 slots9 pc9 lcs9 st9 h1 h2 => by rw [hx9]; exact x_out C htab hlk h1 h2
  have hthr : True := trivial
  generalize (vx_MQ below (QX cy D B (Sum.map (fun x => some (Value.int x)) id res.1) res.2 μ ω) (XCX cy D B (Sum.map (fun x => some (Value.int x)) id res.1) res.2 μ ω) args s 1 6 (aB B)) = Q at hret hthr hout ⊢
  obtain ⟨R, hR9⟩ : ∃ R : Room, R = ({ frames := 7, cells := 1, slots := 6, locals := 140 } : Room) := ⟨_, rfl⟩
  rw [← hR9] at hret hout ⊢
  unfold fX5_format at h
  show X p l e R s m args below meth c 3 cy D B 0 0 Q 0 [(0, .ref (B + oHB)), (1, .int p1)] [] σ μ ω
  refine x_iload_n C dX5_format_0 rfl 1 rfl ?_
  obtain ⟨q1, hk1, h⟩ := Option.bind_eq_some_iff.mp h
  refine x_callSX C (As := [.int p1]) (rest := []) (cells2 := 1) (slots2 := 6) (lw_g_mk tw_888 rfl) (okX5_checkNight l hlf cy D B ek p1 σ μ ω _ hk1) rfl rfl (by rw [hR9]; decide) (lw_g_mk tw_889 rfl) (lw_g_mk tw_1 rfl) (by decide) rfl (lw_g_mk tw_887 rfl) rfl (Nat.le_of_ble_eq_true rfl) dX5_format_1 (by rw [hR9]; decide) rfl rfl (fun v2 hv3 => ?_) (fun k4 hv5 => ?_)
  · rcases q1 with x2 | e3
    · rw [Sum.elim_inl] at h
      have hv3 : (Sum.inl (none) : Option Value ⊕ Nat) = .inl v2 := hv3
      cases hv3
      refine x_aload_n C dX5_format_4 rfl 0 rfl ?_
      refine x_iconst C (v := 0) dX5_format_5 (by decide) ?_
      refine x_put C (C1 := "HostelBeds") (T := TX5) (N := 12) (ci := 5) inXg5 tyX5 tyX5_ok nmX5 _ (c_HB) rfl 11 (by decide) (lw_g_mk tw_298 rfl) rfl rfl rfl rfl (Nat.le_of_ble_eq_true rfl) dX5_format_6 (s_HB_signCount) ?_
      refine x_iconst C (v := 0) dX5_format_9 (by decide) ?_
      refine x_istore_n C [(2, .int (0 : Int32)), (0, .ref (B + oHB)), (1, .int p1)] dX5_format_10 rfl (by decide) rfl ?_
      obtain ⟨b11, hk24, h⟩ := Option.bind_eq_some_iff.mp h
      refine x_sub [1, 2, 0] rfl ?_
      refine loop_run (step := stX5_format_11 p1) (P := fun (a11 : Int32 × Mem) => X p l e R s m args below meth c 3 cy D B 1 6 Q 11 [(0, .ref (B + oHB)), (1, .int p1), (2, .int a11.1)] [] a11.2 μ ω) (K := fun (b11 : Mem) => X p l e R s m args below meth c 3 cy D B 1 6 Q 101 [(0, .ref (B + oHB)), (1, .int p1)] [] b11 μ ω) ?_ 5000 ((0 : Int32), wI σ 4 0 0 (0 : Int32)) b11 hk24 ?_
      · intro a11 r h hA7 hB8
        unfold stX5_format_11 at h
        refine x_iload_n C dX5_format_11 rfl 2 rfl ?_
        refine x_aload_n C dX5_format_12 rfl 0 rfl ?_
        refine x_get C (C1 := "HostelBeds") (T := TX5) (N := 12) (ci := 5) inXg5 _ (c_HB) rfl 2 (by decide) (lw_g_mk tw_289 rfl) rfl dX5_format_13 ?_
        obtain ⟨hg9, h⟩ := gd_some h
        refine x_get C (C1 := "HostelBeds$Hostel") (T := TX1) (N := 12) (ci := 1) inXg1 _ (c_Ho hg9) rfl 1 (by decide) (lw_g_mk tw_189 rfl) rfl dX5_format_16 ?_
        refine x_icmp_ge C (tgt := 101) dX5_format_19 (by decide) (fun hc10 => ?_) (fun hc10 => ?_)
        · rw [if_pos hc10] at h
          cases h
          refine x_sub [0, 1] rfl ?_
          exact hB8 a11.2 rfl
        · rw [if_neg hc10] at h
          refine x_iload_n C dX5_format_22 rfl 2 rfl ?_
          have hJ20 : ∀ (σ4 : Mem) (r9 : (Int32 × Mem) ⊕ (Mem)), jX5_format_38 a11 p1 σ4 = some r9 → (∀ a2, r9 = .inl a2 → (fun (a11 : Int32 × Mem) => X p l e R s m args below meth c 3 cy D B 1 6 Q 11 [(0, .ref (B + oHB)), (1, .int p1), (2, .int a11.1)] [] a11.2 μ ω) a2) → (∀ b2, r9 = .inr b2 → (fun (b11 : Mem) => X p l e R s m args below meth c 3 cy D B 1 6 Q 101 [(0, .ref (B + oHB)), (1, .int p1)] [] b11 μ ω) b2) → X p l e R s m args below meth c 3 cy D B 1 6 Q 38 [(0, .ref (B + oHB)), (1, .int p1), (2, .int a11.1)] [] σ4 μ ω := by
            intro σ4 r h hA7 hB8
            unfold jX5_format_38 at h
            refine x_aload_n C dX5_format_38 rfl 0 rfl ?_
            refine x_aload_n C dX5_format_39 rfl 0 rfl ?_
            refine x_get C (C1 := "HostelBeds") (T := TX5) (N := 12) (ci := 5) inXg5 _ (c_HB) rfl 2 (by decide) (lw_g_mk tw_289 rfl) rfl dX5_format_40 ?_
            obtain ⟨hg11, h⟩ := gd_some h
            refine x_get C (C1 := "HostelBeds$Hostel") (T := TX1) (N := 12) (ci := 1) inXg1 _ (c_Ho hg11) rfl 0 (by decide) (lw_g_mk tw_185 rfl) rfl dX5_format_43 ?_
            refine x_iload_n C dX5_format_46 rfl 2 rfl ?_
            obtain ⟨hg12, h⟩ := gd_some h
            refine x_aldq C _ 5 (C1 := "HostelBeds$Room") (c_Rms hg11) rfl hg12 rfl dX5_format_47 ?_
            refine x_get C (C1 := "HostelBeds$Room") (T := TX4) (N := 5) (ci := 4) inXg4 _ (c_Rm hg11 (inb_lt hg12)) rfl 0 (by decide) (lw_g_mk tw_78 rfl) rfl dX5_format_48 ?_
            obtain ⟨q5, hk13, h⟩ := Option.bind_eq_some_iff.mp h
            refine x_callV C (As := [.long (rJ σ4 1 (rP σ4 0) a11.1.toNatClampNeg)]) (rest := []) (lw_g_mk tw_1099 rfl) (lw_g_mk tsel_13 rfl) (c_HB) (C1 := "HostelBeds") (T := TX5) (N := 12) (ci := 5) rfl (okX5_putName l cy D B ek (rJ σ4 1 (rP σ4 0) a11.1.toNatClampNeg) σ4 μ ω _ hk13) rfl rfl (by rw [hR9]; decide) (lw_g_mk tw_1100 rfl) (lw_g_mk tw_1 rfl) (by decide) rfl (lw_g_mk tw_1097 rfl) rfl (Nat.le_of_ble_eq_true rfl) dX5_format_51 (by rw [hR9]; decide) ?_
            refine x_aload_n C dX5_format_54 rfl 0 rfl ?_
            refine x_bipush C (v := 32) dX5_format_55 (by decide) ?_
            obtain ⟨q6, hk14, h⟩ := Option.bind_eq_some_iff.mp h
            refine x_callV C (As := [.int (32 : Int32)]) (rest := []) (lw_g_mk tw_1095 rfl) (lw_g_mk tsel_12 rfl) (c_HB) (C1 := "HostelBeds") (T := TX5) (N := 12) (ci := 5) rfl (okX5_putSign l cy D B ek (32 : Int32) q5 μ ω _ hk14) rfl rfl (by rw [hR9]; decide) (lw_g_mk tw_1096 rfl) (lw_g_mk tw_1 rfl) (by decide) rfl (lw_g_mk tw_1093 rfl) rfl (Nat.le_of_ble_eq_true rfl) dX5_format_57 (by rw [hR9]; decide) ?_
            refine x_aload_n C dX5_format_60 rfl 0 rfl ?_
            refine x_aload_n C dX5_format_61 rfl 0 rfl ?_
            refine x_get C (C1 := "HostelBeds") (T := TX5) (N := 12) (ci := 5) inXg5 _ (c_HB) rfl 4 (by decide) (lw_g_mk tw_291 rfl) rfl dX5_format_62 ?_
            refine x_iload_n C dX5_format_65 rfl 2 rfl ?_
            refine x_iload_n C dX5_format_66 rfl 1 rfl ?_
            obtain ⟨q7, hk15, h⟩ := Option.bind_eq_some_iff.mp h
            refine x_callV C (As := [.int a11.1, .int p1]) (rest := [.ref (B + oHB)]) (lw_g_mk tw_339 rfl) (lw_g_mk tw_340 rfl) (c_Pl (by decide)) (C1 := "HostelBeds$Plan") (T := TX3) (N := 8) (ci := 3) rfl (okX3_taken l cy D B ek 0 a11.1 p1 q6 μ ω (by decide) _ hk15) rfl rfl (by rw [hR9]; decide) (lw_g_mk tw_341 rfl) (lw_g_mk tw_6 rfl) (by decide) rfl (lw_g_mk tw_338 rfl) rfl (Nat.le_of_ble_eq_true rfl) dX5_format_67 (by rw [hR9]; decide) ?_
            obtain ⟨q8, hk16, h⟩ := Option.bind_eq_some_iff.mp h
            refine x_callV C (As := [.int q7]) (rest := []) (lw_g_mk tw_1103 rfl) (lw_g_mk tsel_14 rfl) (c_HB) (C1 := "HostelBeds") (T := TX5) (N := 12) (ci := 5) rfl (okX5_putNumber l cy D B ek q7 q6 μ ω _ hk16) rfl rfl (by rw [hR9]; decide) (lw_g_mk tw_1104 rfl) (lw_g_mk tw_1 rfl) (by decide) rfl (lw_g_mk tw_1101 rfl) rfl (Nat.le_of_ble_eq_true rfl) dX5_format_70 (by rw [hR9]; decide) ?_
            refine x_aload_n C dX5_format_73 rfl 0 rfl ?_
            refine x_bipush C (v := 47) dX5_format_74 (by decide) ?_
            obtain ⟨q9, hk17, h⟩ := Option.bind_eq_some_iff.mp h
            refine x_callV C (As := [.int (47 : Int32)]) (rest := []) (lw_g_mk tw_1095 rfl) (lw_g_mk tsel_12 rfl) (c_HB) (C1 := "HostelBeds") (T := TX5) (N := 12) (ci := 5) rfl (okX5_putSign l cy D B ek (47 : Int32) q8 μ ω _ hk17) rfl rfl (by rw [hR9]; decide) (lw_g_mk tw_1096 rfl) (lw_g_mk tw_1 rfl) (by decide) rfl (lw_g_mk tw_1093 rfl) rfl (Nat.le_of_ble_eq_true rfl) dX5_format_76 (by rw [hR9]; decide) ?_
            refine x_aload_n C dX5_format_79 rfl 0 rfl ?_
            refine x_aload_n C dX5_format_80 rfl 0 rfl ?_
            refine x_get C (C1 := "HostelBeds") (T := TX5) (N := 12) (ci := 5) inXg5 _ (c_HB) rfl 2 (by decide) (lw_g_mk tw_289 rfl) rfl dX5_format_81 ?_
            obtain ⟨hg18, h⟩ := gd_some h
            refine x_get C (C1 := "HostelBeds$Hostel") (T := TX1) (N := 12) (ci := 1) inXg1 _ (c_Ho hg18) rfl 0 (by decide) (lw_g_mk tw_185 rfl) rfl dX5_format_84 ?_
            refine x_iload_n C dX5_format_87 rfl 2 rfl ?_
            refine x_aldq C _ 5 (C1 := "HostelBeds$Room") (c_Rms hg18) rfl hg12 rfl dX5_format_88 ?_
            refine x_get C (C1 := "HostelBeds$Room") (T := TX4) (N := 5) (ci := 4) inXg4 _ (c_Rm hg18 (inb_lt hg12)) rfl 2 (by decide) (lw_g_mk tw_84 rfl) rfl dX5_format_89 ?_
            obtain ⟨q10, hk19, h⟩ := Option.bind_eq_some_iff.mp h
            refine x_callV C (As := [.int (rI q9 31 (rP q9 0) a11.1.toNatClampNeg)]) (rest := []) (lw_g_mk tw_1103 rfl) (lw_g_mk tsel_14 rfl) (c_HB) (C1 := "HostelBeds") (T := TX5) (N := 12) (ci := 5) rfl (okX5_putNumber l cy D B ek (rI q9 31 (rP q9 0) a11.1.toNatClampNeg) q9 μ ω _ hk19) rfl rfl (by rw [hR9]; decide) (lw_g_mk tw_1104 rfl) (lw_g_mk tw_1 rfl) (by decide) rfl (lw_g_mk tw_1101 rfl) rfl (Nat.le_of_ble_eq_true rfl) dX5_format_92 (by rw [hR9]; decide) ?_
            refine x_iinc C (k := 2) [(2, .int (a11.1 + (1 : Int32))), (0, .ref (B + oHB)), (1, .int p1)] dX5_format_95 rfl rfl (by decide) rfl ?_
            refine x_goto C (tgt := 11) dX5_format_98 (by decide) ?_
            cases h
            refine x_sub [1, 2, 0] rfl ?_
            exact hA7 (a11.1 + (1 : Int32), q10) rfl
          refine x_if_le C (tgt := 38) dX5_format_23 (by decide) (fun hc21 => ?_) (fun hc21 => ?_)
          · rw [if_pos hc21] at h
            exact hJ20 a11.2 _ h hA7 hB8
          · rw [if_neg hc21] at h
            refine x_aload_n C dX5_format_26 rfl 0 rfl ?_
            refine x_bipush C (v := 44) dX5_format_27 (by decide) ?_
            obtain ⟨q11, hk22, h⟩ := Option.bind_eq_some_iff.mp h
            refine x_callV C (As := [.int (44 : Int32)]) (rest := []) (lw_g_mk tw_1095 rfl) (lw_g_mk tsel_12 rfl) (c_HB) (C1 := "HostelBeds") (T := TX5) (N := 12) (ci := 5) rfl (okX5_putSign l cy D B ek (44 : Int32) a11.2 μ ω _ hk22) rfl rfl (by rw [hR9]; decide) (lw_g_mk tw_1096 rfl) (lw_g_mk tw_1 rfl) (by decide) rfl (lw_g_mk tw_1093 rfl) rfl (Nat.le_of_ble_eq_true rfl) dX5_format_29 (by rw [hR9]; decide) ?_
            refine x_aload_n C dX5_format_32 rfl 0 rfl ?_
            refine x_bipush C (v := 32) dX5_format_33 (by decide) ?_
            obtain ⟨q12, hk23, h⟩ := Option.bind_eq_some_iff.mp h
            refine x_callV C (As := [.int (32 : Int32)]) (rest := []) (lw_g_mk tw_1095 rfl) (lw_g_mk tsel_12 rfl) (c_HB) (C1 := "HostelBeds") (T := TX5) (N := 12) (ci := 5) rfl (okX5_putSign l cy D B ek (32 : Int32) q11 μ ω _ hk23) rfl rfl (by rw [hR9]; decide) (lw_g_mk tw_1096 rfl) (lw_g_mk tw_1 rfl) (by decide) rfl (lw_g_mk tw_1093 rfl) rfl (Nat.le_of_ble_eq_true rfl) dX5_format_35 (by rw [hR9]; decide) ?_
            exact hJ20 q12 _ h hA7 hB8
      · show X p l e R s m args below meth c 3 cy D B 1 6 Q 101 [(0, .ref (B + oHB)), (1, .int p1)] [] b11 μ ω
        refine x_aload_n C dX5_format_101 rfl 0 rfl ?_
        refine x_iload_n C dX5_format_102 rfl 1 rfl ?_
        obtain ⟨q13, hk25, h⟩ := Option.bind_eq_some_iff.mp h
        refine x_callV C (As := [.int p1]) (rest := []) (lw_g_mk tw_927 rfl) (lw_g_mk tsel_7 rfl) (c_HB) (C1 := "HostelBeds") (T := TX5) (N := 12) (ci := 5) rfl (okX5_walkedPersons l cy D B ek p1 b11 μ ω _ hk25) rfl rfl (by rw [hR9]; decide) (lw_g_mk tw_928 rfl) (lw_g_mk tw_1 rfl) (by decide) rfl (lw_g_mk tw_925 rfl) rfl (Nat.le_of_ble_eq_true rfl) dX5_format_103 (by rw [hR9]; decide) ?_
        refine x_istore_n C [(2, .int q13), (0, .ref (B + oHB)), (1, .int p1)] dX5_format_106 rfl (by decide) rfl ?_
        refine x_iload_n C dX5_format_107 rfl 0 rfl ?_
        have hJ26 : ∀ (σ14 : Mem) (r9 : (Int32 ⊕ Nat) × Mem), jX5_format_128 σ14 = some r9 → (∀ (x9 : Int32), r9.1 = .inl x9 → ∀ (cells9 slots9 pc9 : Nat) (lcs9 : List (Nat × Value)), decode cX5_format pc9 = .ok (.ireturn, 1) → narrow .int (.int x9) = .int x9 → cells9 ≤ 1 → slots9 ≤ 6 → X p l e R s m args below meth c 3 cy D B cells9 slots9 Q pc9 lcs9 [.int x9] r9.2 μ ω) → (True) → (∀ (k9 : Nat), r9.1 = .inr k9 → ∀ (cells9 slots9 pc9 : Nat) (lcs9 : List (Nat × Value)) (st9 : List Value), cells9 ≤ 1 → slots9 ≤ 6 → XO p l e R s m args below meth c 3 cy D B cells9 slots9 Q pc9 lcs9 st9 r9.2 μ ω k9) → X p l e R s m args below meth c 3 cy D B 1 6 Q 128 [(0, .ref (B + oHB))] [] σ14 μ ω := by
          intro σ14 res9 h hret hthr hout
          unfold jX5_format_128 at h
          refine x_aload_n C dX5_format_128 rfl 0 rfl ?_
          refine x_get C (C1 := "HostelBeds") (T := TX5) (N := 12) (ci := 5) inXg5 _ (c_HB) rfl 11 (by decide) (lw_g_mk tw_298 rfl) rfl dX5_format_129 ?_
          cases h
          exact hret _ rfl _ _ _ _ dX5_format_132 rfl (by decide) (by decide)
        refine x_if_le C (tgt := 128) dX5_format_108 (by decide) (fun hc27 => ?_) (fun hc27 => ?_)
        · rw [if_pos hc27] at h
          refine x_sub [1] rfl ?_
          exact hJ26 b11 _ h hret hthr hout
        · rw [if_neg hc27] at h
          refine x_aload_n C dX5_format_111 rfl 1 rfl ?_
          refine x_bipush C (v := 32) dX5_format_112 (by decide) ?_
          obtain ⟨q15, hk28, h⟩ := Option.bind_eq_some_iff.mp h
          refine x_callV C (As := [.int (32 : Int32)]) (rest := []) (lw_g_mk tw_1095 rfl) (lw_g_mk tsel_12 rfl) (c_HB) (C1 := "HostelBeds") (T := TX5) (N := 12) (ci := 5) rfl (okX5_putSign l cy D B ek (32 : Int32) b11 μ ω _ hk28) rfl rfl (by rw [hR9]; decide) (lw_g_mk tw_1096 rfl) (lw_g_mk tw_1 rfl) (by decide) rfl (lw_g_mk tw_1093 rfl) rfl (Nat.le_of_ble_eq_true rfl) dX5_format_114 (by rw [hR9]; decide) ?_
          refine x_aload_n C dX5_format_117 rfl 1 rfl ?_
          refine x_bipush C (v := 43) dX5_format_118 (by decide) ?_
          obtain ⟨q16, hk29, h⟩ := Option.bind_eq_some_iff.mp h
          refine x_callV C (As := [.int (43 : Int32)]) (rest := []) (lw_g_mk tw_1095 rfl) (lw_g_mk tsel_12 rfl) (c_HB) (C1 := "HostelBeds") (T := TX5) (N := 12) (ci := 5) rfl (okX5_putSign l cy D B ek (43 : Int32) q15 μ ω _ hk29) rfl rfl (by rw [hR9]; decide) (lw_g_mk tw_1096 rfl) (lw_g_mk tw_1 rfl) (by decide) rfl (lw_g_mk tw_1093 rfl) rfl (Nat.le_of_ble_eq_true rfl) dX5_format_120 (by rw [hR9]; decide) ?_
          refine x_aload_n C dX5_format_123 rfl 1 rfl ?_
          refine x_iload_n C dX5_format_124 rfl 0 rfl ?_
          obtain ⟨q17, hk30, h⟩ := Option.bind_eq_some_iff.mp h
          refine x_callV C (As := [.int q13]) (rest := []) (lw_g_mk tw_1103 rfl) (lw_g_mk tsel_14 rfl) (c_HB) (C1 := "HostelBeds") (T := TX5) (N := 12) (ci := 5) rfl (okX5_putNumber l cy D B ek q13 q16 μ ω _ hk30) rfl rfl (by rw [hR9]; decide) (lw_g_mk tw_1104 rfl) (lw_g_mk tw_1 rfl) (by decide) rfl (lw_g_mk tw_1101 rfl) rfl (Nat.le_of_ble_eq_true rfl) dX5_format_125 (by rw [hR9]; decide) ?_
          refine x_sub [1] rfl ?_
          exact hJ26 q17 _ h hret hthr hout
    · cases hv3
  · rcases q1 with x2 | e3
    · cases hv5
    · rw [Sum.elim_inr] at h
      have hv5 : (Sum.inr e3 : Option Value ⊕ Nat) = .inr k4 := hv5
      cases hv5
      cases h
      exact hout _ rfl _ _ _ _ _ (by decide) (by decide)
def jX5_formattedCharacter_12 : Option ((Int32 ⊕ Nat)) := (some (.inr 3))
def fX5_formattedCharacter (p1 : Int32) (σ : Mem) : Option ((Int32 ⊕ Nat)) := (if p1 < 0 then (jX5_formattedCharacter_12) else (if p1 < (rI σ 4 0 0) then (gd (inb p1 160) (gd (vp_nar .char (rI σ 5 0 p1.toNatClampNeg) = (rI σ 5 0 p1.toNatClampNeg)) (some (.inl (rI σ 5 0 p1.toNatClampNeg))))) else (jX5_formattedCharacter_12)))
set_option maxHeartbeats 4000000 in
set_option maxRecDepth 100000 in
theorem okX5_formattedCharacter (l : Launch) (hlf : l.stackTraces = false) (cy : Nat → ClassId) (D : va_G) (B : Nat) (ek : EK) (p1 : Int32) (σ μ ω : Mem) (res : (Int32 ⊕ Nat)) (h : fX5_formattedCharacter p1 σ = some res) : CTX l cy D B ek yX5_formattedCharacter cX5_formattedCharacter 2 (some .char) ({ frames := 6, cells := 1, slots := 6, locals := 120 } : Room) 1 6 [.ref (B + oHB), .int p1] σ μ ω (Sum.map (fun x => some (Value.int x)) id res) σ μ ω := by
  refine met_XX (own := "HostelBeds") (by decide) rfl (Nat.le_of_ble_eq_true rfl) ?_
  intro p e s m args below meth c C hrT hlk htab
  have hret : ∀ (x9 : Int32), res = .inl x9 → ∀ (cells9 slots9 pc9 : Nat) (lcs9 : List (Nat × Value)), decode cX5_formattedCharacter pc9 = .ok (.ireturn, 1) → narrow .char (.int x9) = .int x9 → cells9 ≤ 1 → slots9 ≤ 6 → X p l e ({ frames := 6, cells := 1, slots := 6, locals := 120 } : Room) s m args below meth c 2 cy D B cells9 slots9 (vx_MQ below (QX cy D B (Sum.map (fun x => some (Value.int x)) id res) σ μ ω) (XCX cy D B (Sum.map (fun x => some (Value.int x)) id res) σ μ ω) args s 1 6 (aB B)) pc9 lcs9 [.int x9] σ μ ω := fun x9 hx9 cells9 slots9 pc9 lcs9 hd hn h1 h2 => by rw [hx9]; exact x_zretX C hrT hlk hn hd h1 h2
  have hthr : ∀ (k9 : Nat), res = .inr k9 → ∀ (cells9 slots9 pc9 : Nat) (lcs9 : List (Nat × Value)), (ThrowS "HostelBeds" cX5_formattedCharacter pc9 k9 ∨ ThrowSW "HostelBeds" cX5_formattedCharacter pc9 k9 ∨ ThrowN "HostelBeds" cX5_formattedCharacter pc9 k9) → cells9 + 1 ≤ 1 → slots9 + 6 ≤ 6 → X p l e ({ frames := 6, cells := 1, slots := 6, locals := 120 } : Room) s m args below meth c 2 cy D B cells9 slots9 (vx_MQ below (QX cy D B (Sum.map (fun x => some (Value.int x)) id res) σ μ ω) (XCX cy D B (Sum.map (fun x => some (Value.int x)) id res) σ μ ω) args s 1 6 (aB B)) pc9 lcs9 [] σ μ ω := fun k9 hx9 cells9 slots9 pc9 lcs9 ht h1 h2 => by
    rw [hx9]
    rcases ht with ht | ht | ht
    · exact x_throwS C hlf ht htab (Nat.le_of_ble_eq_true rfl) (Nat.le_of_ble_eq_true rfl) h1 h2 hlk h1 h2
    · exact x_throwSW C hlf ht htab (Nat.le_of_ble_eq_true rfl) (Nat.le_of_ble_eq_true rfl) h1 h2 hlk h1 h2
    · exact x_throwN C hlf ht htab (Nat.le_of_ble_eq_true rfl) (Nat.le_of_ble_eq_true rfl) h1 h2 hlk h1 h2
  have hout : ∀ (k9 : Nat), res = .inr k9 → ∀ (cells9 slots9 pc9 : Nat) (lcs9 : List (Nat × Value)) (st9 : List Value), cells9 ≤ 1 → slots9 ≤ 6 → XO p l e ({ frames := 6, cells := 1, slots := 6, locals := 120 } : Room) s m args below meth c 2 cy D B cells9 slots9 (vx_MQ below (QX cy D B (Sum.map (fun x => some (Value.int x)) id res) σ μ ω) (XCX cy D B (Sum.map (fun x => some (Value.int x)) id res) σ μ ω) args s 1 6 (aB B)) pc9 lcs9 st9 σ μ ω k9 := fun k9 hx9 cells9 slots9 pc9 lcs9 st9 h1 h2 => by rw [hx9]; exact x_out C htab hlk h1 h2
  generalize (vx_MQ below (QX cy D B (Sum.map (fun x => some (Value.int x)) id res) σ μ ω) (XCX cy D B (Sum.map (fun x => some (Value.int x)) id res) σ μ ω) args s 1 6 (aB B)) = Q at hret hthr hout ⊢
  obtain ⟨R, hR9⟩ : ∃ R : Room, R = ({ frames := 6, cells := 1, slots := 6, locals := 120 } : Room) := ⟨_, rfl⟩
  rw [← hR9] at hret hthr hout ⊢
  unfold fX5_formattedCharacter at h
  show X p l e R s m args below meth c 2 cy D B 0 0 Q 0 [(0, .ref (B + oHB)), (1, .int p1)] [] σ μ ω
  refine x_iload_n C dX5_formattedCharacter_0 rfl 1 rfl ?_
  have hJ1 : ∀ (r9 : (Int32 ⊕ Nat)), jX5_formattedCharacter_12 = some r9 → (∀ (x9 : Int32), r9 = .inl x9 → ∀ (cells9 slots9 pc9 : Nat) (lcs9 : List (Nat × Value)), decode cX5_formattedCharacter pc9 = .ok (.ireturn, 1) → narrow .char (.int x9) = .int x9 → cells9 ≤ 1 → slots9 ≤ 6 → X p l e R s m args below meth c 2 cy D B cells9 slots9 Q pc9 lcs9 [.int x9] σ μ ω) → (∀ (k9 : Nat), r9 = .inr k9 → ∀ (cells9 slots9 pc9 : Nat) (lcs9 : List (Nat × Value)), (ThrowS "HostelBeds" cX5_formattedCharacter pc9 k9 ∨ ThrowSW "HostelBeds" cX5_formattedCharacter pc9 k9 ∨ ThrowN "HostelBeds" cX5_formattedCharacter pc9 k9) → cells9 + 1 ≤ 1 → slots9 + 6 ≤ 6 → X p l e R s m args below meth c 2 cy D B cells9 slots9 Q pc9 lcs9 [] σ μ ω) → (∀ (k9 : Nat), r9 = .inr k9 → ∀ (cells9 slots9 pc9 : Nat) (lcs9 : List (Nat × Value)) (st9 : List Value), cells9 ≤ 1 → slots9 ≤ 6 → XO p l e R s m args below meth c 2 cy D B cells9 slots9 Q pc9 lcs9 st9 σ μ ω k9) → X p l e R s m args below meth c 2 cy D B 0 0 Q 12 [] [] σ μ ω := by
    intro res9 h hret hthr hout
    unfold jX5_formattedCharacter_12 at h
    cases h
    exact hthr _ rfl _ _ _ _ (Or.inr (Or.inl ⟨192, 348, 196, "no such character", dX5_formattedCharacter_12, dX5_formattedCharacter_15, dX5_formattedCharacter_16, dX5_formattedCharacter_19, dX5_formattedCharacter_22, lw_g_mk tw_762 rfl, lw_g_mk tw_19 rfl, (by decide +kernel), (by decide +kernel), (by decide +kernel), hat_3, hgood_3⟩)) (by decide) (by decide)
  refine x_if_lt C (tgt := 12) dX5_formattedCharacter_1 (by decide) (fun hc2 => ?_) (fun hc2 => ?_)
  · rw [if_pos hc2] at h
    refine x_sub [] rfl ?_
    exact hJ1 _ h hret hthr hout
  · rw [if_neg hc2] at h
    refine x_iload_n C dX5_formattedCharacter_4 rfl 1 rfl ?_
    refine x_aload_n C dX5_formattedCharacter_5 rfl 0 rfl ?_
    refine x_get C (C1 := "HostelBeds") (T := TX5) (N := 12) (ci := 5) inXg5 _ (c_HB) rfl 11 (by decide) (lw_g_mk tw_298 rfl) rfl dX5_formattedCharacter_6 ?_
    refine x_icmp_lt C (tgt := 23) dX5_formattedCharacter_9 (by decide) (fun hc3 => ?_) (fun hc3 => ?_)
    · rw [if_pos hc3] at h
      refine x_aload_n C dX5_formattedCharacter_23 rfl 0 rfl ?_
      refine x_get C (C1 := "HostelBeds") (T := TX5) (N := 12) (ci := 5) inXg5 _ (c_HB) rfl 10 (by decide) (lw_g_mk tw_297 rfl) rfl dX5_formattedCharacter_24 ?_
      refine x_iload_n C dX5_formattedCharacter_27 rfl 1 rfl ?_
      obtain ⟨hg4, h⟩ := gd_some h
      refine x_cald C _ (c_Signs) hg4 dX5_formattedCharacter_28 ?_
      obtain ⟨hg5, h⟩ := gd_some h
      cases h
      exact hret _ rfl _ _ _ _ dX5_formattedCharacter_29 (nar_C hg5) (by decide) (by decide)
    · rw [if_neg hc3] at h
      refine x_sub [] rfl ?_
      exact hJ1 _ h hret hthr hout
