def fX5_append (p1 : Int32) (p2 : Int32) (p3 : Int32) (p4 : Int32) (p5 : Int32) (σ : Mem) : Option ((Int32 ⊕ Nat) × Mem) := (if ((rI σ 7 0 0) + (20 : Int32)) ≤ (700 : Int32) then ((fX2_put p1 σ).bind fun q1 => ((fX2_put p2 q1).bind fun q2 => ((fX2_put p3 q2).bind fun q3 => ((fX2_put p4 q3).bind fun q4 => ((fX2_put p5 q4).bind fun q5 => (some (.inl (rI q5 7 0 0), q5))))))) else (some (.inr 1, σ)))
set_option maxHeartbeats 4000000 in
set_option maxRecDepth 100000 in
theorem okX5_append (l : Launch) (hlf : l.stackTraces = false) (cy : Nat → ClassId) (D : va_G) (B : Nat) (ek : EK) (p1 : Int32) (p2 : Int32) (p3 : Int32) (p4 : Int32) (p5 : Int32) (σ : Mem) (Y : va_W) (res : (Int32 ⊕ Nat) × Mem) (h : fX5_append p1 p2 p3 p4 p5 σ = some res) : CTX l cy D B ek yX5_append cX5_append 6 (some .int) ({ frames := 6, cells := 1, slots := 6, locals := 120 } : Room) 1 6 [.ref (B + oHB), .int p1, .int p2, .int p3, .int p4, .int p5] σ Y (Sum.map (fun x => some (Value.int x)) id res.1) res.2 Y := by
  refine met_XX (own := "HostelBeds") (by decide) rfl (Nat.le_of_ble_eq_true rfl) ?_
  intro p e s m args below meth c C hrT hlk htab
  have hret : ∀ (x9 : Int32), res.1 = .inl x9 → ∀ (cells9 slots9 pc9 : Nat) (lcs9 : List (Nat × Value)), decode cX5_append pc9 = .ok (.ireturn, 1) → narrow .int (.int x9) = .int x9 → cells9 ≤ 1 → slots9 ≤ 6 → X p l e ({ frames := 6, cells := 1, slots := 6, locals := 120 } : Room) s m args below meth c 6 cy D B cells9 slots9 (vx_MQ below (QX cy D B (Sum.map (fun x => some (Value.int x)) id res.1) res.2 Y) (XCX cy D B (Sum.map (fun x => some (Value.int x)) id res.1) res.2 Y) args s 1 6 (aB B)) pc9 lcs9 [.int x9] res.2 Y := fun x9 hx9 cells9 slots9 pc9 lcs9 hd hn h1 h2 => by rw [hx9]; exact x_zretX C hrT hlk hn hd h1 h2
  have hthr : ∀ (k9 : Nat), res.1 = .inr k9 → ∀ (cells9 slots9 pc9 : Nat) (lcs9 : List (Nat × Value)), (ThrowS "HostelBeds" cX5_append pc9 k9 ∨ ThrowSW "HostelBeds" cX5_append pc9 k9 ∨ ThrowN "HostelBeds" cX5_append pc9 k9) → cells9 + 1 ≤ 1 → slots9 + 6 ≤ 6 → X p l e ({ frames := 6, cells := 1, slots := 6, locals := 120 } : Room) s m args below meth c 6 cy D B cells9 slots9 (vx_MQ below (QX cy D B (Sum.map (fun x => some (Value.int x)) id res.1) res.2 Y) (XCX cy D B (Sum.map (fun x => some (Value.int x)) id res.1) res.2 Y) args s 1 6 (aB B)) pc9 lcs9 [] res.2 Y := fun k9 hx9 cells9 slots9 pc9 lcs9 ht h1 h2 => by
    rw [hx9]
    rcases ht with ht | ht | ht
    · exact x_throwS C hlf ht htab (Nat.le_of_ble_eq_true rfl) (Nat.le_of_ble_eq_true rfl) h1 h2 hlk h1 h2
    · exact x_throwSW C hlf ht htab (Nat.le_of_ble_eq_true rfl) (Nat.le_of_ble_eq_true rfl) h1 h2 hlk h1 h2
    · exact x_throwN C hlf ht htab (Nat.le_of_ble_eq_true rfl) (Nat.le_of_ble_eq_true rfl) h1 h2 hlk h1 h2
  have hout : ∀ (k9 : Nat), res.1 = .inr k9 → ∀ (cells9 slots9 pc9 : Nat) (lcs9 : List (Nat × Value)) (st9 : List Value), cells9 ≤ 1 → slots9 ≤ 6 → XO p l e ({ frames := 6, cells := 1, slots := 6, locals := 120 } : Room) s m args below meth c 6 cy D B cells9 slots9 (vx_MQ below (QX cy D B (Sum.map (fun x => some (Value.int x)) id res.1) res.2 Y) (XCX cy D B (Sum.map (fun x => some (Value.int x)) id res.1) res.2 Y) args s 1 6 (aB B)) pc9 lcs9 st9 res.2 Y k9 := fun k9 hx9 cells9 slots9 pc9 lcs9 st9 h1 h2 => by rw [hx9]; exact x_out C htab hlk h1 h2
  generalize (vx_MQ below (QX cy D B (Sum.map (fun x => some (Value.int x)) id res.1) res.2 Y) (XCX cy D B (Sum.map (fun x => some (Value.int x)) id res.1) res.2 Y) args s 1 6 (aB B)) = Q at hret hthr hout ⊢
  obtain ⟨R, hR9⟩ : ∃ R : Room, R = ({ frames := 6, cells := 1, slots := 6, locals := 120 } : Room) := ⟨_, rfl⟩
  rw [← hR9] at hret hthr hout ⊢
  unfold fX5_append at h
  show X p l e R s m args below meth c 6 cy D B 0 0 Q 0 [(0, .ref (B + oHB)), (1, .int p1), (2, .int p2), (3, .int p3), (4, .int p4), (5, .int p5)] [] σ Y
  refine x_aload_n C dX5_append_0 rfl 0 rfl ?_
  refine x_get C (C1 := "HostelBeds") (T := TX5) (N := 12) (ci := 7) inXg5 _ (c_HB) rfl 0 (by decide) (lw_g_mk tw_285 rfl) rfl dX5_append_1 ?_
  refine x_get C (C1 := "HostelBeds$Input") (T := TX2) (N := 7) (ci := 4) inXg2 _ (c_In) rfl 1 (by decide) (lw_g_mk tw_41 rfl) rfl dX5_append_4 ?_
  refine x_bipush C (v := 20) dX5_append_7 (by decide) ?_
  refine x_iadd C dX5_append_9 ?_
  refine x_sipush C (v := 700) dX5_append_10 (by decide) ?_
  refine x_icmp_le C (tgt := 26) dX5_append_13 (by decide) (fun hc1 => ?_) (fun hc1 => ?_)
  · rw [if_pos hc1] at h
    refine x_aload_n C dX5_append_26 rfl 0 rfl ?_
    refine x_get C (C1 := "HostelBeds") (T := TX5) (N := 12) (ci := 7) inXg5 _ (c_HB) rfl 0 (by decide) (lw_g_mk tw_285 rfl) rfl dX5_append_27 ?_
    refine x_iload_n C dX5_append_30 rfl 1 rfl ?_
    obtain ⟨q1, hk2, h⟩ := Option.bind_eq_some_iff.mp h
    refine x_callV C (As := [.int p1]) (rest := []) (lw_g_mk tw_562 rfl) (lw_g_mk tw_563 rfl) (c_In) (C1 := "HostelBeds$Input") (T := TX2) (N := 7) (ci := 4) rfl (okX2_put l cy D B ek p1 σ Y _ hk2) rfl rfl (by rw [hR9]; decide) (lw_g_mk tw_564 rfl) (lw_g_mk tw_2 rfl) (by decide) rfl (lw_g_mk tw_561 rfl) rfl (Nat.le_of_ble_eq_true rfl) dX5_append_31 (by rw [hR9]; decide) ?_
    refine x_aload_n C dX5_append_34 rfl 0 rfl ?_
    refine x_get C (C1 := "HostelBeds") (T := TX5) (N := 12) (ci := 7) inXg5 _ (c_HB) rfl 0 (by decide) (lw_g_mk tw_285 rfl) rfl dX5_append_35 ?_
    refine x_iload_n C dX5_append_38 rfl 2 rfl ?_
    obtain ⟨q2, hk3, h⟩ := Option.bind_eq_some_iff.mp h
    refine x_callV C (As := [.int p2]) (rest := []) (lw_g_mk tw_562 rfl) (lw_g_mk tw_563 rfl) (c_In) (C1 := "HostelBeds$Input") (T := TX2) (N := 7) (ci := 4) rfl (okX2_put l cy D B ek p2 q1 Y _ hk3) rfl rfl (by rw [hR9]; decide) (lw_g_mk tw_564 rfl) (lw_g_mk tw_2 rfl) (by decide) rfl (lw_g_mk tw_561 rfl) rfl (Nat.le_of_ble_eq_true rfl) dX5_append_39 (by rw [hR9]; decide) ?_
    refine x_aload_n C dX5_append_42 rfl 0 rfl ?_
    refine x_get C (C1 := "HostelBeds") (T := TX5) (N := 12) (ci := 7) inXg5 _ (c_HB) rfl 0 (by decide) (lw_g_mk tw_285 rfl) rfl dX5_append_43 ?_
    refine x_iload_n C dX5_append_46 rfl 3 rfl ?_
    obtain ⟨q3, hk4, h⟩ := Option.bind_eq_some_iff.mp h
    refine x_callV C (As := [.int p3]) (rest := []) (lw_g_mk tw_562 rfl) (lw_g_mk tw_563 rfl) (c_In) (C1 := "HostelBeds$Input") (T := TX2) (N := 7) (ci := 4) rfl (okX2_put l cy D B ek p3 q2 Y _ hk4) rfl rfl (by rw [hR9]; decide) (lw_g_mk tw_564 rfl) (lw_g_mk tw_2 rfl) (by decide) rfl (lw_g_mk tw_561 rfl) rfl (Nat.le_of_ble_eq_true rfl) dX5_append_47 (by rw [hR9]; decide) ?_
    refine x_aload_n C dX5_append_50 rfl 0 rfl ?_
    refine x_get C (C1 := "HostelBeds") (T := TX5) (N := 12) (ci := 7) inXg5 _ (c_HB) rfl 0 (by decide) (lw_g_mk tw_285 rfl) rfl dX5_append_51 ?_
    refine x_iload C dX5_append_54 4 rfl ?_
    obtain ⟨q4, hk5, h⟩ := Option.bind_eq_some_iff.mp h
    refine x_callV C (As := [.int p4]) (rest := []) (lw_g_mk tw_562 rfl) (lw_g_mk tw_563 rfl) (c_In) (C1 := "HostelBeds$Input") (T := TX2) (N := 7) (ci := 4) rfl (okX2_put l cy D B ek p4 q3 Y _ hk5) rfl rfl (by rw [hR9]; decide) (lw_g_mk tw_564 rfl) (lw_g_mk tw_2 rfl) (by decide) rfl (lw_g_mk tw_561 rfl) rfl (Nat.le_of_ble_eq_true rfl) dX5_append_56 (by rw [hR9]; decide) ?_
    refine x_aload_n C dX5_append_59 rfl 0 rfl ?_
    refine x_get C (C1 := "HostelBeds") (T := TX5) (N := 12) (ci := 7) inXg5 _ (c_HB) rfl 0 (by decide) (lw_g_mk tw_285 rfl) rfl dX5_append_60 ?_
    refine x_iload C dX5_append_63 5 rfl ?_
    obtain ⟨q5, hk6, h⟩ := Option.bind_eq_some_iff.mp h
    refine x_callV C (As := [.int p5]) (rest := []) (lw_g_mk tw_562 rfl) (lw_g_mk tw_563 rfl) (c_In) (C1 := "HostelBeds$Input") (T := TX2) (N := 7) (ci := 4) rfl (okX2_put l cy D B ek p5 q4 Y _ hk6) rfl rfl (by rw [hR9]; decide) (lw_g_mk tw_564 rfl) (lw_g_mk tw_2 rfl) (by decide) rfl (lw_g_mk tw_561 rfl) rfl (Nat.le_of_ble_eq_true rfl) dX5_append_65 (by rw [hR9]; decide) ?_
    refine x_aload_n C dX5_append_68 rfl 0 rfl ?_
    refine x_get C (C1 := "HostelBeds") (T := TX5) (N := 12) (ci := 7) inXg5 _ (c_HB) rfl 0 (by decide) (lw_g_mk tw_285 rfl) rfl dX5_append_69 ?_
    refine x_get C (C1 := "HostelBeds$Input") (T := TX2) (N := 7) (ci := 4) inXg2 _ (c_In) rfl 1 (by decide) (lw_g_mk tw_41 rfl) rfl dX5_append_72 ?_
    cases h
    exact hret _ rfl _ _ _ _ dX5_append_75 rfl (by decide) (by decide)
  · rw [if_neg hc1] at h
    cases h
    exact hthr _ rfl _ _ _ _ (Or.inl ⟨55, 57, 59, "the text would have more than 700 bytes", dX5_append_16, dX5_append_19, dX5_append_20, dX5_append_22, dX5_append_25, lw_g_mk tw_545 rfl, lw_g_mk tw_23 rfl, (by decide +kernel), (by decide +kernel), (by decide +kernel), hat_1, hgood_1⟩) (by decide) (by decide)
def jX5_truncate_15 (σ : Mem) : Option ((Unit ⊕ Nat) × Mem) := (some (.inr 2, σ))
def fX5_truncate (p1 : Int32) (σ : Mem) : Option ((Unit ⊕ Nat) × Mem) := (if p1 < 0 then (jX5_truncate_15 σ) else (if p1 ≤ (rI σ 7 0 0) then (some (.inl (), wI σ 7 0 0 p1)) else (jX5_truncate_15 σ)))
set_option maxHeartbeats 4000000 in
set_option maxRecDepth 100000 in
theorem okX5_truncate (l : Launch) (hlf : l.stackTraces = false) (cy : Nat → ClassId) (D : va_G) (B : Nat) (ek : EK) (p1 : Int32) (σ : Mem) (Y : va_W) (res : (Unit ⊕ Nat) × Mem) (h : fX5_truncate p1 σ = some res) : CTX l cy D B ek yX5_truncate cX5_truncate 2 none ({ frames := 6, cells := 1, slots := 6, locals := 120 } : Room) 1 6 [.ref (B + oHB), .int p1] σ Y (Sum.map (fun _ => (none : Option Value)) id res.1) res.2 Y := by
  refine met_XX (own := "HostelBeds") (by decide) rfl (Nat.le_of_ble_eq_true rfl) ?_
  intro p e s m args below meth c C hrT hlk htab
  have hret : ∀ (x9 : Unit), res.1 = .inl x9 → ∀ (cells9 slots9 pc9 : Nat) (lcs9 : List (Nat × Value)), decode cX5_truncate pc9 = .ok (.return_, 1) → cells9 ≤ 1 → slots9 ≤ 6 → X p l e ({ frames := 6, cells := 1, slots := 6, locals := 120 } : Room) s m args below meth c 2 cy D B cells9 slots9 (vx_MQ below (QX cy D B (Sum.map (fun _ => (none : Option Value)) id res.1) res.2 Y) (XCX cy D B (Sum.map (fun _ => (none : Option Value)) id res.1) res.2 Y) args s 1 6 (aB B)) pc9 lcs9 [] res.2 Y := fun x9 hx9 cells9 slots9 pc9 lcs9 hd h1 h2 => by rw [hx9]; exact x_vretX C hrT hlk hd h1 h2
  have hthr : ∀ (k9 : Nat), res.1 = .inr k9 → ∀ (cells9 slots9 pc9 : Nat) (lcs9 : List (Nat × Value)), (ThrowS "HostelBeds" cX5_truncate pc9 k9 ∨ ThrowSW "HostelBeds" cX5_truncate pc9 k9 ∨ ThrowN "HostelBeds" cX5_truncate pc9 k9) → cells9 + 1 ≤ 1 → slots9 + 6 ≤ 6 → X p l e ({ frames := 6, cells := 1, slots := 6, locals := 120 } : Room) s m args below meth c 2 cy D B cells9 slots9 (vx_MQ below (QX cy D B (Sum.map (fun _ => (none : Option Value)) id res.1) res.2 Y) (XCX cy D B (Sum.map (fun _ => (none : Option Value)) id res.1) res.2 Y) args s 1 6 (aB B)) pc9 lcs9 [] res.2 Y := fun k9 hx9 cells9 slots9 pc9 lcs9 ht h1 h2 => by
    rw [hx9]
    rcases ht with ht | ht | ht
    · exact x_throwS C hlf ht htab (Nat.le_of_ble_eq_true rfl) (Nat.le_of_ble_eq_true rfl) h1 h2 hlk h1 h2
    · exact x_throwSW C hlf ht htab (Nat.le_of_ble_eq_true rfl) (Nat.le_of_ble_eq_true rfl) h1 h2 hlk h1 h2
    · exact x_throwN C hlf ht htab (Nat.le_of_ble_eq_true rfl) (Nat.le_of_ble_eq_true rfl) h1 h2 hlk h1 h2
  have hout : ∀ (k9 : Nat), res.1 = .inr k9 → ∀ (cells9 slots9 pc9 : Nat) (lcs9 : List (Nat × Value)) (st9 : List Value), cells9 ≤ 1 → slots9 ≤ 6 → XO p l e ({ frames := 6, cells := 1, slots := 6, locals := 120 } : Room) s m args below meth c 2 cy D B cells9 slots9 (vx_MQ below (QX cy D B (Sum.map (fun _ => (none : Option Value)) id res.1) res.2 Y) (XCX cy D B (Sum.map (fun _ => (none : Option Value)) id res.1) res.2 Y) args s 1 6 (aB B)) pc9 lcs9 st9 res.2 Y k9 := fun k9 hx9 cells9 slots9 pc9 lcs9 st9 h1 h2 => by rw [hx9]; exact x_out C htab hlk h1 h2
  generalize (vx_MQ below (QX cy D B (Sum.map (fun _ => (none : Option Value)) id res.1) res.2 Y) (XCX cy D B (Sum.map (fun _ => (none : Option Value)) id res.1) res.2 Y) args s 1 6 (aB B)) = Q at hret hthr hout ⊢
  obtain ⟨R, hR9⟩ : ∃ R : Room, R = ({ frames := 6, cells := 1, slots := 6, locals := 120 } : Room) := ⟨_, rfl⟩
  rw [← hR9] at hret hthr hout ⊢
  unfold fX5_truncate at h
  show X p l e R s m args below meth c 2 cy D B 0 0 Q 0 [(0, .ref (B + oHB)), (1, .int p1)] [] σ Y
  refine x_iload_n C dX5_truncate_0 rfl 1 rfl ?_
  have hJ1 : ∀ (r9 : (Unit ⊕ Nat) × Mem), jX5_truncate_15 σ = some r9 → (∀ (x9 : Unit), r9.1 = .inl x9 → ∀ (cells9 slots9 pc9 : Nat) (lcs9 : List (Nat × Value)), decode cX5_truncate pc9 = .ok (.return_, 1) → cells9 ≤ 1 → slots9 ≤ 6 → X p l e R s m args below meth c 2 cy D B cells9 slots9 Q pc9 lcs9 [] r9.2 Y) → (∀ (k9 : Nat), r9.1 = .inr k9 → ∀ (cells9 slots9 pc9 : Nat) (lcs9 : List (Nat × Value)), (ThrowS "HostelBeds" cX5_truncate pc9 k9 ∨ ThrowSW "HostelBeds" cX5_truncate pc9 k9 ∨ ThrowN "HostelBeds" cX5_truncate pc9 k9) → cells9 + 1 ≤ 1 → slots9 + 6 ≤ 6 → X p l e R s m args below meth c 2 cy D B cells9 slots9 Q pc9 lcs9 [] r9.2 Y) → (∀ (k9 : Nat), r9.1 = .inr k9 → ∀ (cells9 slots9 pc9 : Nat) (lcs9 : List (Nat × Value)) (st9 : List Value), cells9 ≤ 1 → slots9 ≤ 6 → XO p l e R s m args below meth c 2 cy D B cells9 slots9 Q pc9 lcs9 st9 r9.2 Y k9) → X p l e R s m args below meth c 2 cy D B 0 0 Q 15 [] [] σ Y := by
    intro res9 h hret hthr hout
    unfold jX5_truncate_15 at h
    cases h
    exact hthr _ rfl _ _ _ _ (Or.inl ⟨66, 68, 70, "no such length", dX5_truncate_15, dX5_truncate_18, dX5_truncate_19, dX5_truncate_21, dX5_truncate_24, lw_g_mk tw_330 rfl, lw_g_mk tw_10 rfl, (by decide +kernel), (by decide +kernel), (by decide +kernel), hat_2, hgood_2⟩) (by decide) (by decide)
  refine x_if_lt C (tgt := 15) dX5_truncate_1 (by decide) (fun hc2 => ?_) (fun hc2 => ?_)
  · rw [if_pos hc2] at h
    refine x_sub [] rfl ?_
    exact hJ1 _ h hret hthr hout
  · rw [if_neg hc2] at h
    refine x_iload_n C dX5_truncate_4 rfl 1 rfl ?_
    refine x_aload_n C dX5_truncate_5 rfl 0 rfl ?_
    refine x_get C (C1 := "HostelBeds") (T := TX5) (N := 12) (ci := 7) inXg5 _ (c_HB) rfl 0 (by decide) (lw_g_mk tw_285 rfl) rfl dX5_truncate_6 ?_
    refine x_get C (C1 := "HostelBeds$Input") (T := TX2) (N := 7) (ci := 4) inXg2 _ (c_In) rfl 1 (by decide) (lw_g_mk tw_41 rfl) rfl dX5_truncate_9 ?_
    refine x_icmp_le C (tgt := 25) dX5_truncate_12 (by decide) (fun hc3 => ?_) (fun hc3 => ?_)
    · rw [if_pos hc3] at h
      refine x_aload_n C dX5_truncate_25 rfl 0 rfl ?_
      refine x_get C (C1 := "HostelBeds") (T := TX5) (N := 12) (ci := 7) inXg5 _ (c_HB) rfl 0 (by decide) (lw_g_mk tw_285 rfl) rfl dX5_truncate_26 ?_
      refine x_iload_n C dX5_truncate_29 rfl 1 rfl ?_
      refine x_put C (C1 := "HostelBeds$Input") (T := TX2) (N := 7) (ci := 4) inXg2 tyX2 tyX2_ok nmX2 _ (c_In) rfl 1 (by decide) (lw_g_mk tw_41 rfl) rfl rfl rfl rfl (Nat.le_of_ble_eq_true rfl) dX5_truncate_30 (s_In_length) ?_
      cases h
      exact hret _ rfl _ _ _ _ dX5_truncate_33 (by decide) (by decide)
    · rw [if_neg hc3] at h
      refine x_sub [] rfl ?_
      exact hJ1 _ h hret hthr hout
def fX5_load (σ : Mem) : Option ((Int32 ⊕ Nat) × Mem) := (gd (rP σ 1 < 12) ((fX2_read (rP σ 1) σ).bind fun q1 => (if (rI (wI (wI q1.2 1 0 0 q1.1) 7 0 0 (0 : Int32)) 1 0 0) = (-1 : Int32) then (gd (rP (wI (wI q1.2 1 0 0 q1.1) 7 0 0 (0 : Int32)) 1 < 12) (gd (rP (wI (wI q1.2 1 0 0 q1.1) 7 0 0 (0 : Int32)) 0 < 12) (gd (rP (wI (wP (wP (wI (wI q1.2 1 0 0 q1.1) 7 0 0 (0 : Int32)) 1 (rP (wI (wI q1.2 1 0 0 q1.1) 7 0 0 (0 : Int32)) 0)) 0 (rP (wI (wI q1.2 1 0 0 q1.1) 7 0 0 (0 : Int32)) 1)) 3 0 0 (0 : Int32)) 0 < 12) ((fX3_make 0 (rP (wI (wP (wP (wI (wI q1.2 1 0 0 q1.1) 7 0 0 (0 : Int32)) 1 (rP (wI (wI q1.2 1 0 0 q1.1) 7 0 0 (0 : Int32)) 0)) 0 (rP (wI (wI q1.2 1 0 0 q1.1) 7 0 0 (0 : Int32)) 1)) 3 0 0 (0 : Int32)) 0) (wI (wP (wP (wI (wI q1.2 1 0 0 q1.1) 7 0 0 (0 : Int32)) 1 (rP (wI (wI q1.2 1 0 0 q1.1) 7 0 0 (0 : Int32)) 0)) 0 (rP (wI (wI q1.2 1 0 0 q1.1) 7 0 0 (0 : Int32)) 1)) 3 0 0 (0 : Int32))).bind fun q2 => (gd (rP q2 0 < 12) (some (.inl (rI q2 22 (rP q2 0) 0), q2))))))) else (some (.inr 2, wI (wI q1.2 1 0 0 q1.1) 7 0 0 (0 : Int32))))))
set_option maxHeartbeats 4000000 in
set_option maxRecDepth 100000 in
theorem okX5_load (l : Launch) (hlf : l.stackTraces = false) (cy : Nat → ClassId) (D : va_G) (B : Nat) (ek : EK) (σ : Mem) (Y : va_W) (res : (Int32 ⊕ Nat) × Mem) (h : fX5_load σ = some res) : CTX l cy D B ek yX5_load cX5_load 2 (some .int) ({ frames := 11, cells := 1, slots := 6, locals := 228 } : Room) 1 6 [.ref (B + oHB)] σ Y (Sum.map (fun x => some (Value.int x)) id res.1) res.2 Y := by
  refine met_XX (own := "HostelBeds") (by decide) rfl (Nat.le_of_ble_eq_true rfl) ?_
  intro p e s m args below meth c C hrT hlk htab
  have hret : ∀ (x9 : Int32), res.1 = .inl x9 → ∀ (cells9 slots9 pc9 : Nat) (lcs9 : List (Nat × Value)), decode cX5_load pc9 = .ok (.ireturn, 1) → narrow .int (.int x9) = .int x9 → cells9 ≤ 1 → slots9 ≤ 6 → X p l e ({ frames := 11, cells := 1, slots := 6, locals := 228 } : Room) s m args below meth c 2 cy D B cells9 slots9 (vx_MQ below (QX cy D B (Sum.map (fun x => some (Value.int x)) id res.1) res.2 Y) (XCX cy D B (Sum.map (fun x => some (Value.int x)) id res.1) res.2 Y) args s 1 6 (aB B)) pc9 lcs9 [.int x9] res.2 Y := fun x9 hx9 cells9 slots9 pc9 lcs9 hd hn h1 h2 => by rw [hx9]; exact x_zretX C hrT hlk hn hd h1 h2
  have hthr : ∀ (k9 : Nat), res.1 = .inr k9 → ∀ (cells9 slots9 pc9 : Nat) (lcs9 : List (Nat × Value)), (ThrowS "HostelBeds" cX5_load pc9 k9 ∨ ThrowSW "HostelBeds" cX5_load pc9 k9 ∨ ThrowN "HostelBeds" cX5_load pc9 k9) → cells9 + 1 ≤ 1 → slots9 + 6 ≤ 6 → X p l e ({ frames := 11, cells := 1, slots := 6, locals := 228 } : Room) s m args below meth c 2 cy D B cells9 slots9 (vx_MQ below (QX cy D B (Sum.map (fun x => some (Value.int x)) id res.1) res.2 Y) (XCX cy D B (Sum.map (fun x => some (Value.int x)) id res.1) res.2 Y) args s 1 6 (aB B)) pc9 lcs9 [] res.2 Y := fun k9 hx9 cells9 slots9 pc9 lcs9 ht h1 h2 => by
    rw [hx9]
    rcases ht with ht | ht | ht
    · exact x_throwS C hlf ht htab (Nat.le_of_ble_eq_true rfl) (Nat.le_of_ble_eq_true rfl) h1 h2 hlk h1 h2
    · exact x_throwSW C hlf ht htab (Nat.le_of_ble_eq_true rfl) (Nat.le_of_ble_eq_true rfl) h1 h2 hlk h1 h2
    · exact x_throwN C hlf ht htab (Nat.le_of_ble_eq_true rfl) (Nat.le_of_ble_eq_true rfl) h1 h2 hlk h1 h2
  have hout : ∀ (k9 : Nat), res.1 = .inr k9 → ∀ (cells9 slots9 pc9 : Nat) (lcs9 : List (Nat × Value)) (st9 : List Value), cells9 ≤ 1 → slots9 ≤ 6 → XO p l e ({ frames := 11, cells := 1, slots := 6, locals := 228 } : Room) s m args below meth c 2 cy D B cells9 slots9 (vx_MQ below (QX cy D B (Sum.map (fun x => some (Value.int x)) id res.1) res.2 Y) (XCX cy D B (Sum.map (fun x => some (Value.int x)) id res.1) res.2 Y) args s 1 6 (aB B)) pc9 lcs9 st9 res.2 Y k9 := fun k9 hx9 cells9 slots9 pc9 lcs9 st9 h1 h2 => by rw [hx9]; exact x_out C htab hlk h1 h2
  generalize (vx_MQ below (QX cy D B (Sum.map (fun x => some (Value.int x)) id res.1) res.2 Y) (XCX cy D B (Sum.map (fun x => some (Value.int x)) id res.1) res.2 Y) args s 1 6 (aB B)) = Q at hret hthr hout ⊢
  obtain ⟨R, hR9⟩ : ∃ R : Room, R = ({ frames := 11, cells := 1, slots := 6, locals := 228 } : Room) := ⟨_, rfl⟩
  rw [← hR9] at hret hthr hout ⊢
  unfold fX5_load at h
  show X p l e R s m args below meth c 2 cy D B 0 0 Q 0 [(0, .ref (B + oHB))] [] σ Y
  refine x_aload_n C dX5_load_0 rfl 0 rfl ?_
  refine x_aload_n C dX5_load_1 rfl 0 rfl ?_
  refine x_get C (C1 := "HostelBeds") (T := TX5) (N := 12) (ci := 7) inXg5 _ (c_HB) rfl 0 (by decide) (lw_g_mk tw_285 rfl) rfl dX5_load_2 ?_
  refine x_aload_n C dX5_load_5 rfl 0 rfl ?_
  refine x_get C (C1 := "HostelBeds") (T := TX5) (N := 12) (ci := 7) inXg5 _ (c_HB) rfl 3 (by decide) (lw_g_mk tw_288 rfl) rfl dX5_load_6 ?_
  obtain ⟨hg1, h⟩ := gd_some h
  obtain ⟨q1, hk2, h⟩ := Option.bind_eq_some_iff.mp h
  refine x_callV C (As := [.ref (B + oHo (rP σ 1))]) (rest := [.ref (B + oHB)]) (lw_g_mk tw_574 rfl) (lw_g_mk tw_575 rfl) (c_In) (C1 := "HostelBeds$Input") (T := TX2) (N := 7) (ci := 4) rfl (okX2_read l cy D B ek (rP σ 1) σ Y hg1 _ hk2) rfl rfl (by rw [hR9]; decide) (lw_g_mk tw_576 rfl) (lw_g_mk tw_2 rfl) (by decide) rfl (lw_g_mk tw_573 rfl) rfl (Nat.le_of_ble_eq_true rfl) dX5_load_9 (by rw [hR9]; decide) ?_
  refine x_put C (C1 := "HostelBeds") (T := TX5) (N := 12) (ci := 7) inXg5 tyX5 tyX5_ok nmX5 _ (c_HB) rfl 1 (by decide) (lw_g_mk tw_286 rfl) rfl rfl rfl rfl (Nat.le_of_ble_eq_true rfl) dX5_load_12 (s_HB_wrongAt) ?_
  refine x_aload_n C dX5_load_15 rfl 0 rfl ?_
  refine x_get C (C1 := "HostelBeds") (T := TX5) (N := 12) (ci := 7) inXg5 _ (c_HB) rfl 0 (by decide) (lw_g_mk tw_285 rfl) rfl dX5_load_16 ?_
  refine x_iconst C (v := 0) dX5_load_19 (by decide) ?_
  refine x_put C (C1 := "HostelBeds$Input") (T := TX2) (N := 7) (ci := 4) inXg2 tyX2 tyX2_ok nmX2 _ (c_In) rfl 1 (by decide) (lw_g_mk tw_41 rfl) rfl rfl rfl rfl (Nat.le_of_ble_eq_true rfl) dX5_load_20 (s_In_length) ?_
  refine x_aload_n C dX5_load_23 rfl 0 rfl ?_
  refine x_get C (C1 := "HostelBeds") (T := TX5) (N := 12) (ci := 7) inXg5 _ (c_HB) rfl 1 (by decide) (lw_g_mk tw_286 rfl) rfl dX5_load_24 ?_
  refine x_iconst C (v := -1) dX5_load_27 (by decide) ?_
  refine x_icmp_eq C (tgt := 41) dX5_load_28 (by decide) (fun hc3 => ?_) (fun hc3 => ?_)
  · rw [if_pos hc3] at h
    refine x_aload_n C dX5_load_41 rfl 0 rfl ?_
    refine x_get C (C1 := "HostelBeds") (T := TX5) (N := 12) (ci := 7) inXg5 _ (c_HB) rfl 3 (by decide) (lw_g_mk tw_288 rfl) rfl dX5_load_42 ?_
    obtain ⟨hg4, h⟩ := gd_some h
    refine x_astore_n C [(1, .ref (B + oHo (rP (wI (wI q1.2 1 0 0 q1.1) 7 0 0 (0 : Int32)) 1))), (0, .ref (B + oHB))] dX5_load_45 rfl (by decide) rfl ?_
    refine x_aload_n C dX5_load_46 rfl 1 rfl ?_
    refine x_aload_n C dX5_load_47 rfl 1 rfl ?_
    refine x_get C (C1 := "HostelBeds") (T := TX5) (N := 12) (ci := 7) inXg5 _ (c_HB) rfl 2 (by decide) (lw_g_mk tw_287 rfl) rfl dX5_load_48 ?_
    obtain ⟨hg5, h⟩ := gd_some h
    refine x_put C (C1 := "HostelBeds") (T := TX5) (N := 12) (ci := 7) inXg5 tyX5 tyX5_ok nmX5 _ (c_HB) rfl 3 (by decide) (lw_g_mk tw_288 rfl) rfl rfl rfl rfl (Nat.le_of_ble_eq_true rfl) dX5_load_51 (s_HB_spare) ?_
    refine x_aload_n C dX5_load_54 rfl 1 rfl ?_
    refine x_aload_n C dX5_load_55 rfl 0 rfl ?_
    refine x_put C (C1 := "HostelBeds") (T := TX5) (N := 12) (ci := 7) inXg5 tyX5 tyX5_ok nmX5 _ (c_HB) rfl 2 (by decide) (lw_g_mk tw_287 rfl) rfl rfl rfl rfl (Nat.le_of_ble_eq_true rfl) dX5_load_56 (s_HB_now) ?_
    refine x_aload_n C dX5_load_59 rfl 1 rfl ?_
    refine x_iconst C (v := 0) dX5_load_60 (by decide) ?_
    refine x_put C (C1 := "HostelBeds") (T := TX5) (N := 12) (ci := 7) inXg5 tyX5 tyX5_ok nmX5 _ (c_HB) rfl 8 (by decide) (lw_g_mk tw_292 rfl) rfl rfl rfl rfl (Nat.le_of_ble_eq_true rfl) dX5_load_61 (s_HB_pastCount) ?_
    refine x_aload_n C dX5_load_64 rfl 1 rfl ?_
    refine x_get C (C1 := "HostelBeds") (T := TX5) (N := 12) (ci := 7) inXg5 _ (c_HB) rfl 4 (by decide) (lw_g_mk tw_289 rfl) rfl dX5_load_65 ?_
    refine x_aload_n C dX5_load_68 rfl 1 rfl ?_
    refine x_get C (C1 := "HostelBeds") (T := TX5) (N := 12) (ci := 7) inXg5 _ (c_HB) rfl 2 (by decide) (lw_g_mk tw_287 rfl) rfl dX5_load_69 ?_
    obtain ⟨hg6, h⟩ := gd_some h
    obtain ⟨q2, hk7, h⟩ := Option.bind_eq_some_iff.mp h
    refine x_callV C (As := [.ref (B + oHo (rP (wI (wP (wP (wI (wI q1.2 1 0 0 q1.1) 7 0 0 (0 : Int32)) 1 (rP (wI (wI q1.2 1 0 0 q1.1) 7 0 0 (0 : Int32)) 0)) 0 (rP (wI (wI q1.2 1 0 0 q1.1) 7 0 0 (0 : Int32)) 1)) 3 0 0 (0 : Int32)) 0))]) (rest := []) (lw_g_mk tw_704 rfl) (lw_g_mk tw_705 rfl) (c_Pl (by decide)) (C1 := "HostelBeds$Plan") (T := TX3) (N := 8) (ci := 5) rfl (okX3_make l cy D B ek 0 (rP (wI (wP (wP (wI (wI q1.2 1 0 0 q1.1) 7 0 0 (0 : Int32)) 1 (rP (wI (wI q1.2 1 0 0 q1.1) 7 0 0 (0 : Int32)) 0)) 0 (rP (wI (wI q1.2 1 0 0 q1.1) 7 0 0 (0 : Int32)) 1)) 3 0 0 (0 : Int32)) 0) (wI (wP (wP (wI (wI q1.2 1 0 0 q1.1) 7 0 0 (0 : Int32)) 1 (rP (wI (wI q1.2 1 0 0 q1.1) 7 0 0 (0 : Int32)) 0)) 0 (rP (wI (wI q1.2 1 0 0 q1.1) 7 0 0 (0 : Int32)) 1)) 3 0 0 (0 : Int32)) Y (by decide) hg6 _ hk7) rfl rfl (by rw [hR9]; decide) (lw_g_mk tw_706 rfl) (lw_g_mk tw_6 rfl) (by decide) rfl (lw_g_mk tw_703 rfl) rfl (Nat.le_of_ble_eq_true rfl) dX5_load_72 (by rw [hR9]; decide) ?_
    refine x_aload_n C dX5_load_75 rfl 1 rfl ?_
    refine x_get C (C1 := "HostelBeds") (T := TX5) (N := 12) (ci := 7) inXg5 _ (c_HB) rfl 2 (by decide) (lw_g_mk tw_287 rfl) rfl dX5_load_76 ?_
    obtain ⟨hg8, h⟩ := gd_some h
    refine x_get C (C1 := "HostelBeds$Hostel") (T := TX1) (N := 12) (ci := 3) inXg1 _ (c_Ho hg8) rfl 4 (by decide) (lw_g_mk tw_198 rfl) rfl dX5_load_79 ?_
    cases h
    exact hret _ rfl _ _ _ _ dX5_load_82 rfl (by decide) (by decide)
  · rw [if_neg hc3] at h
    cases h
    exact hthr _ rfl _ _ _ _ (Or.inl ⟨66, 75, 70, "the text does not match", dX5_load_31, dX5_load_34, dX5_load_35, dX5_load_37, dX5_load_40, lw_g_mk tw_330 rfl, lw_g_mk tw_10 rfl, (by decide +kernel), (by decide +kernel), (by decide +kernel), hat_2, hgood_2⟩) (by decide) (by decide)
def fX5_count (p1 : Int32) (σ : Mem) : Option ((Int32 ⊕ Nat)) := (if p1 = (0 : Int32) then (gd (rP σ 0 < 12) (some (.inl (rI σ 20 (rP σ 0) 0)))) else (if p1 = (1 : Int32) then (gd (rP σ 0 < 12) (some (.inl (rI σ 21 (rP σ 0) 0)))) else (if p1 = (2 : Int32) then (gd (rP σ 0 < 12) (some (.inl (rI σ 22 (rP σ 0) 0)))) else (if p1 = (3 : Int32) then (gd (rP σ 0 < 12) ((fX1_countState (rP σ 0) (0 : Int32) σ).bind fun q1 => (some (.inl q1)))) else (if p1 = (4 : Int32) then (gd (rP σ 0 < 12) ((fX1_countState (rP σ 0) (1 : Int32) σ).bind fun q2 => (some (.inl q2)))) else (if p1 = (5 : Int32) then (gd (rP σ 0 < 12) ((fX1_countState (rP σ 0) (2 : Int32) σ).bind fun q3 => (some (.inl q3)))) else (some (.inr 2))))))))
set_option maxHeartbeats 4000000 in
set_option maxRecDepth 100000 in
theorem okX5_count (l : Launch) (hlf : l.stackTraces = false) (cy : Nat → ClassId) (D : va_G) (B : Nat) (ek : EK) (p1 : Int32) (σ : Mem) (Y : va_W) (res : (Int32 ⊕ Nat)) (h : fX5_count p1 σ = some res) : CTX l cy D B ek yX5_count cX5_count 2 (some .int) ({ frames := 6, cells := 1, slots := 6, locals := 120 } : Room) 1 6 [.ref (B + oHB), .int p1] σ Y (Sum.map (fun x => some (Value.int x)) id res) σ Y := by
  refine met_XX (own := "HostelBeds") (by decide) rfl (Nat.le_of_ble_eq_true rfl) ?_
  intro p e s m args below meth c C hrT hlk htab
  have hret : ∀ (x9 : Int32), res = .inl x9 → ∀ (cells9 slots9 pc9 : Nat) (lcs9 : List (Nat × Value)), decode cX5_count pc9 = .ok (.ireturn, 1) → narrow .int (.int x9) = .int x9 → cells9 ≤ 1 → slots9 ≤ 6 → X p l e ({ frames := 6, cells := 1, slots := 6, locals := 120 } : Room) s m args below meth c 2 cy D B cells9 slots9 (vx_MQ below (QX cy D B (Sum.map (fun x => some (Value.int x)) id res) σ Y) (XCX cy D B (Sum.map (fun x => some (Value.int x)) id res) σ Y) args s 1 6 (aB B)) pc9 lcs9 [.int x9] σ Y := fun x9 hx9 cells9 slots9 pc9 lcs9 hd hn h1 h2 => by rw [hx9]; exact x_zretX C hrT hlk hn hd h1 h2
  have hthr : ∀ (k9 : Nat), res = .inr k9 → ∀ (cells9 slots9 pc9 : Nat) (lcs9 : List (Nat × Value)), (ThrowS "HostelBeds" cX5_count pc9 k9 ∨ ThrowSW "HostelBeds" cX5_count pc9 k9 ∨ ThrowN "HostelBeds" cX5_count pc9 k9) → cells9 + 1 ≤ 1 → slots9 + 6 ≤ 6 → X p l e ({ frames := 6, cells := 1, slots := 6, locals := 120 } : Room) s m args below meth c 2 cy D B cells9 slots9 (vx_MQ below (QX cy D B (Sum.map (fun x => some (Value.int x)) id res) σ Y) (XCX cy D B (Sum.map (fun x => some (Value.int x)) id res) σ Y) args s 1 6 (aB B)) pc9 lcs9 [] σ Y := fun k9 hx9 cells9 slots9 pc9 lcs9 ht h1 h2 => by
    rw [hx9]
    rcases ht with ht | ht | ht
    · exact x_throwS C hlf ht htab (Nat.le_of_ble_eq_true rfl) (Nat.le_of_ble_eq_true rfl) h1 h2 hlk h1 h2
    · exact x_throwSW C hlf ht htab (Nat.le_of_ble_eq_true rfl) (Nat.le_of_ble_eq_true rfl) h1 h2 hlk h1 h2
    · exact x_throwN C hlf ht htab (Nat.le_of_ble_eq_true rfl) (Nat.le_of_ble_eq_true rfl) h1 h2 hlk h1 h2
  have hout : ∀ (k9 : Nat), res = .inr k9 → ∀ (cells9 slots9 pc9 : Nat) (lcs9 : List (Nat × Value)) (st9 : List Value), cells9 ≤ 1 → slots9 ≤ 6 → XO p l e ({ frames := 6, cells := 1, slots := 6, locals := 120 } : Room) s m args below meth c 2 cy D B cells9 slots9 (vx_MQ below (QX cy D B (Sum.map (fun x => some (Value.int x)) id res) σ Y) (XCX cy D B (Sum.map (fun x => some (Value.int x)) id res) σ Y) args s 1 6 (aB B)) pc9 lcs9 st9 σ Y k9 := fun k9 hx9 cells9 slots9 pc9 lcs9 st9 h1 h2 => by rw [hx9]; exact x_out C htab hlk h1 h2
  generalize (vx_MQ below (QX cy D B (Sum.map (fun x => some (Value.int x)) id res) σ Y) (XCX cy D B (Sum.map (fun x => some (Value.int x)) id res) σ Y) args s 1 6 (aB B)) = Q at hret hthr hout ⊢
  obtain ⟨R, hR9⟩ : ∃ R : Room, R = ({ frames := 6, cells := 1, slots := 6, locals := 120 } : Room) := ⟨_, rfl⟩
  rw [← hR9] at hret hthr hout ⊢
  unfold fX5_count at h
  show X p l e R s m args below meth c 2 cy D B 0 0 Q 0 [(0, .ref (B + oHB)), (1, .int p1)] [] σ Y
  refine x_iload_n C dX5_count_0 rfl 1 rfl ?_
  by_cases hc1 : p1 = 0
  · rw [if_pos hc1] at h
    refine x_tableIn C (tgt := 40) dX5_count_1 (by rw [hc1]; decide) (by rw [hc1]; decide) (by first | (rw [hc1]; done) | (rw [hc1]; rfl)) (by decide) ?_
    refine x_aload_n C dX5_count_40 rfl 0 rfl ?_
    refine x_get C (C1 := "HostelBeds") (T := TX5) (N := 12) (ci := 7) inXg5 _ (c_HB) rfl 2 (by decide) (lw_g_mk tw_287 rfl) rfl dX5_count_41 ?_
    obtain ⟨hg2, h⟩ := gd_some h
    refine x_get C (C1 := "HostelBeds$Hostel") (T := TX1) (N := 12) (ci := 3) inXg1 _ (c_Ho hg2) rfl 1 (by decide) (lw_g_mk tw_187 rfl) rfl dX5_count_44 ?_
    cases h
    exact hret _ rfl _ _ _ _ dX5_count_47 rfl (by decide) (by decide)
  rw [if_neg hc1] at h
  by_cases hc3 : p1 = 1
  · rw [if_pos hc3] at h
    refine x_tableIn C (tgt := 48) dX5_count_1 (by rw [hc3]; decide) (by rw [hc3]; decide) (by first | (rw [hc3]; done) | (rw [hc3]; rfl)) (by decide) ?_
    refine x_aload_n C dX5_count_48 rfl 0 rfl ?_
    refine x_get C (C1 := "HostelBeds") (T := TX5) (N := 12) (ci := 7) inXg5 _ (c_HB) rfl 2 (by decide) (lw_g_mk tw_287 rfl) rfl dX5_count_49 ?_
    obtain ⟨hg4, h⟩ := gd_some h
    refine x_get C (C1 := "HostelBeds$Hostel") (T := TX1) (N := 12) (ci := 3) inXg1 _ (c_Ho hg4) rfl 2 (by decide) (lw_g_mk tw_191 rfl) rfl dX5_count_52 ?_
    cases h
    exact hret _ rfl _ _ _ _ dX5_count_55 rfl (by decide) (by decide)
  rw [if_neg hc3] at h
  by_cases hc5 : p1 = 2
  · rw [if_pos hc5] at h
    refine x_tableIn C (tgt := 56) dX5_count_1 (by rw [hc5]; decide) (by rw [hc5]; decide) (by first | (rw [hc5]; done) | (rw [hc5]; rfl)) (by decide) ?_
    refine x_aload_n C dX5_count_56 rfl 0 rfl ?_
    refine x_get C (C1 := "HostelBeds") (T := TX5) (N := 12) (ci := 7) inXg5 _ (c_HB) rfl 2 (by decide) (lw_g_mk tw_287 rfl) rfl dX5_count_57 ?_
    obtain ⟨hg6, h⟩ := gd_some h
    refine x_get C (C1 := "HostelBeds$Hostel") (T := TX1) (N := 12) (ci := 3) inXg1 _ (c_Ho hg6) rfl 4 (by decide) (lw_g_mk tw_198 rfl) rfl dX5_count_60 ?_
    cases h
    exact hret _ rfl _ _ _ _ dX5_count_63 rfl (by decide) (by decide)
  rw [if_neg hc5] at h
  by_cases hc7 : p1 = 3
  · rw [if_pos hc7] at h
    refine x_tableIn C (tgt := 64) dX5_count_1 (by rw [hc7]; decide) (by rw [hc7]; decide) (by first | (rw [hc7]; done) | (rw [hc7]; rfl)) (by decide) ?_
    refine x_aload_n C dX5_count_64 rfl 0 rfl ?_
    refine x_get C (C1 := "HostelBeds") (T := TX5) (N := 12) (ci := 7) inXg5 _ (c_HB) rfl 2 (by decide) (lw_g_mk tw_287 rfl) rfl dX5_count_65 ?_
    obtain ⟨hg8, h⟩ := gd_some h
    refine x_iconst C (v := 0) dX5_count_68 (by decide) ?_
    obtain ⟨q1, hk9, h⟩ := Option.bind_eq_some_iff.mp h
    refine x_callV C (As := [.int (0 : Int32)]) (rest := []) (lw_g_mk tw_327 rfl) (lw_g_mk tw_328 rfl) (c_Ho hg8) (C1 := "HostelBeds$Hostel") (T := TX1) (N := 12) (ci := 3) rfl (okX1_countState l cy D B ek (rP σ 0) (0 : Int32) σ Y hg8 _ hk9) rfl rfl (by rw [hR9]; decide) (lw_g_mk tw_329 rfl) (lw_g_mk tw_3 rfl) (by decide) rfl (lw_g_mk tw_326 rfl) rfl (Nat.le_of_ble_eq_true rfl) dX5_count_69 (by rw [hR9]; decide) ?_
    cases h
    exact hret _ rfl _ _ _ _ dX5_count_72 rfl (by decide) (by decide)
  rw [if_neg hc7] at h
  by_cases hc10 : p1 = 4
  · rw [if_pos hc10] at h
    refine x_tableIn C (tgt := 73) dX5_count_1 (by rw [hc10]; decide) (by rw [hc10]; decide) (by first | (rw [hc10]; done) | (rw [hc10]; rfl)) (by decide) ?_
    refine x_aload_n C dX5_count_73 rfl 0 rfl ?_
    refine x_get C (C1 := "HostelBeds") (T := TX5) (N := 12) (ci := 7) inXg5 _ (c_HB) rfl 2 (by decide) (lw_g_mk tw_287 rfl) rfl dX5_count_74 ?_
    obtain ⟨hg11, h⟩ := gd_some h
    refine x_iconst C (v := 1) dX5_count_77 (by decide) ?_
    obtain ⟨q2, hk12, h⟩ := Option.bind_eq_some_iff.mp h
    refine x_callV C (As := [.int (1 : Int32)]) (rest := []) (lw_g_mk tw_327 rfl) (lw_g_mk tw_328 rfl) (c_Ho hg11) (C1 := "HostelBeds$Hostel") (T := TX1) (N := 12) (ci := 3) rfl (okX1_countState l cy D B ek (rP σ 0) (1 : Int32) σ Y hg11 _ hk12) rfl rfl (by rw [hR9]; decide) (lw_g_mk tw_329 rfl) (lw_g_mk tw_3 rfl) (by decide) rfl (lw_g_mk tw_326 rfl) rfl (Nat.le_of_ble_eq_true rfl) dX5_count_78 (by rw [hR9]; decide) ?_
    cases h
    exact hret _ rfl _ _ _ _ dX5_count_81 rfl (by decide) (by decide)
  rw [if_neg hc10] at h
  by_cases hc13 : p1 = 5
  · rw [if_pos hc13] at h
    refine x_tableIn C (tgt := 82) dX5_count_1 (by rw [hc13]; decide) (by rw [hc13]; decide) (by first | (rw [hc13]; done) | (rw [hc13]; rfl)) (by decide) ?_
    refine x_aload_n C dX5_count_82 rfl 0 rfl ?_
    refine x_get C (C1 := "HostelBeds") (T := TX5) (N := 12) (ci := 7) inXg5 _ (c_HB) rfl 2 (by decide) (lw_g_mk tw_287 rfl) rfl dX5_count_83 ?_
    obtain ⟨hg14, h⟩ := gd_some h
    refine x_iconst C (v := 2) dX5_count_86 (by decide) ?_
    obtain ⟨q3, hk15, h⟩ := Option.bind_eq_some_iff.mp h
    refine x_callV C (As := [.int (2 : Int32)]) (rest := []) (lw_g_mk tw_327 rfl) (lw_g_mk tw_328 rfl) (c_Ho hg14) (C1 := "HostelBeds$Hostel") (T := TX1) (N := 12) (ci := 3) rfl (okX1_countState l cy D B ek (rP σ 0) (2 : Int32) σ Y hg14 _ hk15) rfl rfl (by rw [hR9]; decide) (lw_g_mk tw_329 rfl) (lw_g_mk tw_3 rfl) (by decide) rfl (lw_g_mk tw_326 rfl) rfl (Nat.le_of_ble_eq_true rfl) dX5_count_87 (by rw [hR9]; decide) ?_
    cases h
    exact hret _ rfl _ _ _ _ dX5_count_90 rfl (by decide) (by decide)
  rw [if_neg hc13] at h
  refine x_tableOut C (tgt := 91) dX5_count_1 (by have := lv_neT hc1 (a := 0) (by decide); have := lv_neT hc3 (a := 1) (by decide); have := lv_neT hc5 (a := 2) (by decide); have := lv_neT hc7 (a := 3) (by decide); have := lv_neT hc10 (a := 4) (by decide); have := lv_neT hc13 (a := 5) (by decide); omega) (by decide) ?_
  cases h
  exact hthr _ rfl _ _ _ _ (Or.inl ⟨66, 97, 70, "no such count", dX5_count_91, dX5_count_94, dX5_count_95, dX5_count_97, dX5_count_100, lw_g_mk tw_330 rfl, lw_g_mk tw_10 rfl, (by decide +kernel), (by decide +kernel), (by decide +kernel), hat_2, hgood_2⟩) (by decide) (by decide)
def fX5_setting (p1 : Int32) (σ : Mem) : Option ((Int32 ⊕ Nat)) := (if p1 = (0 : Int32) then (gd (rP σ 0 < 12) (some (.inl (rI σ 24 (rP σ 0) 0)))) else (if p1 = (1 : Int32) then (gd (rP σ 0 < 12) (some (.inl (rI σ 25 (rP σ 0) 0)))) else (if p1 = (2 : Int32) then (gd (rP σ 0 < 12) (some (.inl (rI σ 26 (rP σ 0) 0)))) else (if p1 = (3 : Int32) then (gd (rP σ 0 < 12) (some (.inl (rI σ 27 (rP σ 0) 0)))) else (some (.inr 2))))))
set_option maxHeartbeats 4000000 in
set_option maxRecDepth 100000 in
theorem okX5_setting (l : Launch) (hlf : l.stackTraces = false) (cy : Nat → ClassId) (D : va_G) (B : Nat) (ek : EK) (p1 : Int32) (σ : Mem) (Y : va_W) (res : (Int32 ⊕ Nat)) (h : fX5_setting p1 σ = some res) : CTX l cy D B ek yX5_setting cX5_setting 2 (some .int) ({ frames := 6, cells := 1, slots := 6, locals := 120 } : Room) 1 6 [.ref (B + oHB), .int p1] σ Y (Sum.map (fun x => some (Value.int x)) id res) σ Y := by
  refine met_XX (own := "HostelBeds") (by decide) rfl (Nat.le_of_ble_eq_true rfl) ?_
  intro p e s m args below meth c C hrT hlk htab
  have hret : ∀ (x9 : Int32), res = .inl x9 → ∀ (cells9 slots9 pc9 : Nat) (lcs9 : List (Nat × Value)), decode cX5_setting pc9 = .ok (.ireturn, 1) → narrow .int (.int x9) = .int x9 → cells9 ≤ 1 → slots9 ≤ 6 → X p l e ({ frames := 6, cells := 1, slots := 6, locals := 120 } : Room) s m args below meth c 2 cy D B cells9 slots9 (vx_MQ below (QX cy D B (Sum.map (fun x => some (Value.int x)) id res) σ Y) (XCX cy D B (Sum.map (fun x => some (Value.int x)) id res) σ Y) args s 1 6 (aB B)) pc9 lcs9 [.int x9] σ Y := fun x9 hx9 cells9 slots9 pc9 lcs9 hd hn h1 h2 => by rw [hx9]; exact x_zretX C hrT hlk hn hd h1 h2
  have hthr : ∀ (k9 : Nat), res = .inr k9 → ∀ (cells9 slots9 pc9 : Nat) (lcs9 : List (Nat × Value)), (ThrowS "HostelBeds" cX5_setting pc9 k9 ∨ ThrowSW "HostelBeds" cX5_setting pc9 k9 ∨ ThrowN "HostelBeds" cX5_setting pc9 k9) → cells9 + 1 ≤ 1 → slots9 + 6 ≤ 6 → X p l e ({ frames := 6, cells := 1, slots := 6, locals := 120 } : Room) s m args below meth c 2 cy D B cells9 slots9 (vx_MQ below (QX cy D B (Sum.map (fun x => some (Value.int x)) id res) σ Y) (XCX cy D B (Sum.map (fun x => some (Value.int x)) id res) σ Y) args s 1 6 (aB B)) pc9 lcs9 [] σ Y := fun k9 hx9 cells9 slots9 pc9 lcs9 ht h1 h2 => by
    rw [hx9]
    rcases ht with ht | ht | ht
    · exact x_throwS C hlf ht htab (Nat.le_of_ble_eq_true rfl) (Nat.le_of_ble_eq_true rfl) h1 h2 hlk h1 h2
    · exact x_throwSW C hlf ht htab (Nat.le_of_ble_eq_true rfl) (Nat.le_of_ble_eq_true rfl) h1 h2 hlk h1 h2
    · exact x_throwN C hlf ht htab (Nat.le_of_ble_eq_true rfl) (Nat.le_of_ble_eq_true rfl) h1 h2 hlk h1 h2
  have hout : ∀ (k9 : Nat), res = .inr k9 → ∀ (cells9 slots9 pc9 : Nat) (lcs9 : List (Nat × Value)) (st9 : List Value), cells9 ≤ 1 → slots9 ≤ 6 → XO p l e ({ frames := 6, cells := 1, slots := 6, locals := 120 } : Room) s m args below meth c 2 cy D B cells9 slots9 (vx_MQ below (QX cy D B (Sum.map (fun x => some (Value.int x)) id res) σ Y) (XCX cy D B (Sum.map (fun x => some (Value.int x)) id res) σ Y) args s 1 6 (aB B)) pc9 lcs9 st9 σ Y k9 := fun k9 hx9 cells9 slots9 pc9 lcs9 st9 h1 h2 => by rw [hx9]; exact x_out C htab hlk h1 h2
  generalize (vx_MQ below (QX cy D B (Sum.map (fun x => some (Value.int x)) id res) σ Y) (XCX cy D B (Sum.map (fun x => some (Value.int x)) id res) σ Y) args s 1 6 (aB B)) = Q at hret hthr hout ⊢
  obtain ⟨R, hR9⟩ : ∃ R : Room, R = ({ frames := 6, cells := 1, slots := 6, locals := 120 } : Room) := ⟨_, rfl⟩
  rw [← hR9] at hret hthr hout ⊢
  unfold fX5_setting at h
  show X p l e R s m args below meth c 2 cy D B 0 0 Q 0 [(0, .ref (B + oHB)), (1, .int p1)] [] σ Y
  refine x_iload_n C dX5_setting_0 rfl 1 rfl ?_
  by_cases hc1 : p1 = 0
  · rw [if_pos hc1] at h
    refine x_tableIn C (tgt := 32) dX5_setting_1 (by rw [hc1]; decide) (by rw [hc1]; decide) (by first | (rw [hc1]; done) | (rw [hc1]; rfl)) (by decide) ?_
    refine x_aload_n C dX5_setting_32 rfl 0 rfl ?_
    refine x_get C (C1 := "HostelBeds") (T := TX5) (N := 12) (ci := 7) inXg5 _ (c_HB) rfl 2 (by decide) (lw_g_mk tw_287 rfl) rfl dX5_setting_33 ?_
    obtain ⟨hg2, h⟩ := gd_some h
    refine x_get C (C1 := "HostelBeds$Hostel") (T := TX1) (N := 12) (ci := 3) inXg1 _ (c_Ho hg2) rfl 8 (by decide) (lw_g_mk tw_208 rfl) rfl dX5_setting_36 ?_
    cases h
    exact hret _ rfl _ _ _ _ dX5_setting_39 rfl (by decide) (by decide)
  rw [if_neg hc1] at h
  by_cases hc3 : p1 = 1
  · rw [if_pos hc3] at h
    refine x_tableIn C (tgt := 40) dX5_setting_1 (by rw [hc3]; decide) (by rw [hc3]; decide) (by first | (rw [hc3]; done) | (rw [hc3]; rfl)) (by decide) ?_
    refine x_aload_n C dX5_setting_40 rfl 0 rfl ?_
    refine x_get C (C1 := "HostelBeds") (T := TX5) (N := 12) (ci := 7) inXg5 _ (c_HB) rfl 2 (by decide) (lw_g_mk tw_287 rfl) rfl dX5_setting_41 ?_
    obtain ⟨hg4, h⟩ := gd_some h
    refine x_get C (C1 := "HostelBeds$Hostel") (T := TX1) (N := 12) (ci := 3) inXg1 _ (c_Ho hg4) rfl 9 (by decide) (lw_g_mk tw_211 rfl) rfl dX5_setting_44 ?_
    cases h
    exact hret _ rfl _ _ _ _ dX5_setting_47 rfl (by decide) (by decide)
  rw [if_neg hc3] at h
  by_cases hc5 : p1 = 2
  · rw [if_pos hc5] at h
    refine x_tableIn C (tgt := 48) dX5_setting_1 (by rw [hc5]; decide) (by rw [hc5]; decide) (by first | (rw [hc5]; done) | (rw [hc5]; rfl)) (by decide) ?_
    refine x_aload_n C dX5_setting_48 rfl 0 rfl ?_
    refine x_get C (C1 := "HostelBeds") (T := TX5) (N := 12) (ci := 7) inXg5 _ (c_HB) rfl 2 (by decide) (lw_g_mk tw_287 rfl) rfl dX5_setting_49 ?_
    obtain ⟨hg6, h⟩ := gd_some h
    refine x_get C (C1 := "HostelBeds$Hostel") (T := TX1) (N := 12) (ci := 3) inXg1 _ (c_Ho hg6) rfl 10 (by decide) (lw_g_mk tw_215 rfl) rfl dX5_setting_52 ?_
    cases h
    exact hret _ rfl _ _ _ _ dX5_setting_55 rfl (by decide) (by decide)
  rw [if_neg hc5] at h
  by_cases hc7 : p1 = 3
  · rw [if_pos hc7] at h
    refine x_tableIn C (tgt := 56) dX5_setting_1 (by rw [hc7]; decide) (by rw [hc7]; decide) (by first | (rw [hc7]; done) | (rw [hc7]; rfl)) (by decide) ?_
    refine x_aload_n C dX5_setting_56 rfl 0 rfl ?_
    refine x_get C (C1 := "HostelBeds") (T := TX5) (N := 12) (ci := 7) inXg5 _ (c_HB) rfl 2 (by decide) (lw_g_mk tw_287 rfl) rfl dX5_setting_57 ?_
    obtain ⟨hg8, h⟩ := gd_some h
    refine x_get C (C1 := "HostelBeds$Hostel") (T := TX1) (N := 12) (ci := 3) inXg1 _ (c_Ho hg8) rfl 11 (by decide) (lw_g_mk tw_219 rfl) rfl dX5_setting_60 ?_
    cases h
    exact hret _ rfl _ _ _ _ dX5_setting_63 rfl (by decide) (by decide)
  rw [if_neg hc7] at h
  refine x_tableOut C (tgt := 64) dX5_setting_1 (by have := lv_neT hc1 (a := 0) (by decide); have := lv_neT hc3 (a := 1) (by decide); have := lv_neT hc5 (a := 2) (by decide); have := lv_neT hc7 (a := 3) (by decide); omega) (by decide) ?_
  cases h
  exact hthr _ rfl _ _ _ _ (Or.inl ⟨66, 111, 70, "no such setting", dX5_setting_64, dX5_setting_67, dX5_setting_68, dX5_setting_70, dX5_setting_73, lw_g_mk tw_330 rfl, lw_g_mk tw_10 rfl, (by decide +kernel), (by decide +kernel), (by decide +kernel), hat_2, hgood_2⟩) (by decide) (by decide)
def jX5_checkRoom_15 : Option ((Unit ⊕ Nat)) := (some (.inr 3))
def fX5_checkRoom (p1 : Int32) (σ : Mem) : Option ((Unit ⊕ Nat)) := (if p1 < 0 then (jX5_checkRoom_15) else (gd (rP σ 0 < 12) (if p1 < (rI σ 20 (rP σ 0) 0) then (some (.inl ())) else (jX5_checkRoom_15))))
set_option maxHeartbeats 4000000 in
set_option maxRecDepth 100000 in
theorem okX5_checkRoom (l : Launch) (hlf : l.stackTraces = false) (cy : Nat → ClassId) (D : va_G) (B : Nat) (ek : EK) (p1 : Int32) (σ : Mem) (Y : va_W) (res : (Unit ⊕ Nat)) (h : fX5_checkRoom p1 σ = some res) : CTX l cy D B ek yX5_checkRoom cX5_checkRoom 2 none ({ frames := 6, cells := 1, slots := 6, locals := 120 } : Room) 1 6 [.ref (B + oHB), .int p1] σ Y (Sum.map (fun _ => (none : Option Value)) id res) σ Y := by
  refine met_XX (own := "HostelBeds") (by decide) rfl (Nat.le_of_ble_eq_true rfl) ?_
  intro p e s m args below meth c C hrT hlk htab
  have hret : ∀ (x9 : Unit), res = .inl x9 → ∀ (cells9 slots9 pc9 : Nat) (lcs9 : List (Nat × Value)), decode cX5_checkRoom pc9 = .ok (.return_, 1) → cells9 ≤ 1 → slots9 ≤ 6 → X p l e ({ frames := 6, cells := 1, slots := 6, locals := 120 } : Room) s m args below meth c 2 cy D B cells9 slots9 (vx_MQ below (QX cy D B (Sum.map (fun _ => (none : Option Value)) id res) σ Y) (XCX cy D B (Sum.map (fun _ => (none : Option Value)) id res) σ Y) args s 1 6 (aB B)) pc9 lcs9 [] σ Y := fun x9 hx9 cells9 slots9 pc9 lcs9 hd h1 h2 => by rw [hx9]; exact x_vretX C hrT hlk hd h1 h2
  have hthr : ∀ (k9 : Nat), res = .inr k9 → ∀ (cells9 slots9 pc9 : Nat) (lcs9 : List (Nat × Value)), (ThrowS "HostelBeds" cX5_checkRoom pc9 k9 ∨ ThrowSW "HostelBeds" cX5_checkRoom pc9 k9 ∨ ThrowN "HostelBeds" cX5_checkRoom pc9 k9) → cells9 + 1 ≤ 1 → slots9 + 6 ≤ 6 → X p l e ({ frames := 6, cells := 1, slots := 6, locals := 120 } : Room) s m args below meth c 2 cy D B cells9 slots9 (vx_MQ below (QX cy D B (Sum.map (fun _ => (none : Option Value)) id res) σ Y) (XCX cy D B (Sum.map (fun _ => (none : Option Value)) id res) σ Y) args s 1 6 (aB B)) pc9 lcs9 [] σ Y := fun k9 hx9 cells9 slots9 pc9 lcs9 ht h1 h2 => by
    rw [hx9]
    rcases ht with ht | ht | ht
    · exact x_throwS C hlf ht htab (Nat.le_of_ble_eq_true rfl) (Nat.le_of_ble_eq_true rfl) h1 h2 hlk h1 h2
    · exact x_throwSW C hlf ht htab (Nat.le_of_ble_eq_true rfl) (Nat.le_of_ble_eq_true rfl) h1 h2 hlk h1 h2
    · exact x_throwN C hlf ht htab (Nat.le_of_ble_eq_true rfl) (Nat.le_of_ble_eq_true rfl) h1 h2 hlk h1 h2
  have hout : ∀ (k9 : Nat), res = .inr k9 → ∀ (cells9 slots9 pc9 : Nat) (lcs9 : List (Nat × Value)) (st9 : List Value), cells9 ≤ 1 → slots9 ≤ 6 → XO p l e ({ frames := 6, cells := 1, slots := 6, locals := 120 } : Room) s m args below meth c 2 cy D B cells9 slots9 (vx_MQ below (QX cy D B (Sum.map (fun _ => (none : Option Value)) id res) σ Y) (XCX cy D B (Sum.map (fun _ => (none : Option Value)) id res) σ Y) args s 1 6 (aB B)) pc9 lcs9 st9 σ Y k9 := fun k9 hx9 cells9 slots9 pc9 lcs9 st9 h1 h2 => by rw [hx9]; exact x_out C htab hlk h1 h2
  generalize (vx_MQ below (QX cy D B (Sum.map (fun _ => (none : Option Value)) id res) σ Y) (XCX cy D B (Sum.map (fun _ => (none : Option Value)) id res) σ Y) args s 1 6 (aB B)) = Q at hret hthr hout ⊢
  obtain ⟨R, hR9⟩ : ∃ R : Room, R = ({ frames := 6, cells := 1, slots := 6, locals := 120 } : Room) := ⟨_, rfl⟩
  rw [← hR9] at hret hthr hout ⊢
  unfold fX5_checkRoom at h
  show X p l e R s m args below meth c 2 cy D B 0 0 Q 0 [(0, .ref (B + oHB)), (1, .int p1)] [] σ Y
  refine x_iload_n C dX5_checkRoom_0 rfl 1 rfl ?_
  have hJ1 : ∀ (r9 : (Unit ⊕ Nat)), jX5_checkRoom_15 = some r9 → (∀ (x9 : Unit), r9 = .inl x9 → ∀ (cells9 slots9 pc9 : Nat) (lcs9 : List (Nat × Value)), decode cX5_checkRoom pc9 = .ok (.return_, 1) → cells9 ≤ 1 → slots9 ≤ 6 → X p l e R s m args below meth c 2 cy D B cells9 slots9 Q pc9 lcs9 [] σ Y) → (∀ (k9 : Nat), r9 = .inr k9 → ∀ (cells9 slots9 pc9 : Nat) (lcs9 : List (Nat × Value)), (ThrowS "HostelBeds" cX5_checkRoom pc9 k9 ∨ ThrowSW "HostelBeds" cX5_checkRoom pc9 k9 ∨ ThrowN "HostelBeds" cX5_checkRoom pc9 k9) → cells9 + 1 ≤ 1 → slots9 + 6 ≤ 6 → X p l e R s m args below meth c 2 cy D B cells9 slots9 Q pc9 lcs9 [] σ Y) → (∀ (k9 : Nat), r9 = .inr k9 → ∀ (cells9 slots9 pc9 : Nat) (lcs9 : List (Nat × Value)) (st9 : List Value), cells9 ≤ 1 → slots9 ≤ 6 → XO p l e R s m args below meth c 2 cy D B cells9 slots9 Q pc9 lcs9 st9 σ Y k9) → X p l e R s m args below meth c 2 cy D B 0 0 Q 15 [] [] σ Y := by
    intro res9 h hret hthr hout
    unfold jX5_checkRoom_15 at h
    cases h
    exact hthr _ rfl _ _ _ _ (Or.inr (Or.inl ⟨192, 350, 196, "no such room", dX5_checkRoom_15, dX5_checkRoom_18, dX5_checkRoom_19, dX5_checkRoom_22, dX5_checkRoom_25, lw_g_mk tw_411 rfl, lw_g_mk tw_24 rfl, (by decide +kernel), (by decide +kernel), (by decide +kernel), hat_3, hgood_3⟩)) (by decide) (by decide)
  refine x_if_lt C (tgt := 15) dX5_checkRoom_1 (by decide) (fun hc2 => ?_) (fun hc2 => ?_)
  · rw [if_pos hc2] at h
    refine x_sub [] rfl ?_
    exact hJ1 _ h hret hthr hout
  · rw [if_neg hc2] at h
    refine x_iload_n C dX5_checkRoom_4 rfl 1 rfl ?_
    refine x_aload_n C dX5_checkRoom_5 rfl 0 rfl ?_
    refine x_get C (C1 := "HostelBeds") (T := TX5) (N := 12) (ci := 7) inXg5 _ (c_HB) rfl 2 (by decide) (lw_g_mk tw_287 rfl) rfl dX5_checkRoom_6 ?_
    obtain ⟨hg3, h⟩ := gd_some h
    refine x_get C (C1 := "HostelBeds$Hostel") (T := TX1) (N := 12) (ci := 3) inXg1 _ (c_Ho hg3) rfl 1 (by decide) (lw_g_mk tw_187 rfl) rfl dX5_checkRoom_9 ?_
    refine x_icmp_lt C (tgt := 26) dX5_checkRoom_12 (by decide) (fun hc4 => ?_) (fun hc4 => ?_)
    · rw [if_pos hc4] at h
      cases h
      exact hret _ rfl _ _ _ _ dX5_checkRoom_26 (by decide) (by decide)
    · rw [if_neg hc4] at h
      refine x_sub [] rfl ?_
      exact hJ1 _ h hret hthr hout
def fX5_room (p1 : Int32) (p2 : Int32) (σ : Mem) : Option ((Int32 ⊕ Nat)) := ((fX5_checkRoom p1 σ).bind fun q1 => Sum.elim (fun x2 => (gd (rP σ 0 < 12) (gd (inb p1 8) (if p2 = (0 : Int32) then (some (.inl (rI σ 30 (rP σ 0) p1.toNatClampNeg))) else (if p2 = (1 : Int32) then (some (.inl (rI σ 31 (rP σ 0) p1.toNatClampNeg))) else (if p2 = (2 : Int32) then (some (.inl (rI σ 32 (rP σ 0) p1.toNatClampNeg))) else (if p2 = (3 : Int32) then (some (.inl (rI σ 33 (rP σ 0) p1.toNatClampNeg))) else (some (.inr 2))))))))) (fun e3 => (some (.inr e3))) q1)
set_option maxHeartbeats 4000000 in
set_option maxRecDepth 100000 in
theorem okX5_room (l : Launch) (hlf : l.stackTraces = false) (cy : Nat → ClassId) (D : va_G) (B : Nat) (ek : EK) (p1 : Int32) (p2 : Int32) (σ : Mem) (Y : va_W) (res : (Int32 ⊕ Nat)) (h : fX5_room p1 p2 σ = some res) : CTX l cy D B ek yX5_room cX5_room 4 (some .int) ({ frames := 7, cells := 2, slots := 12, locals := 141 } : Room) 2 12 [.ref (B + oHB), .int p1, .int p2] σ Y (Sum.map (fun x => some (Value.int x)) id res) σ Y := by
  refine met_XX (own := "HostelBeds") (by decide) rfl (Nat.le_of_ble_eq_true rfl) ?_
  intro p e s m args below meth c C hrT hlk htab
  have hret : ∀ (x9 : Int32), res = .inl x9 → ∀ (cells9 slots9 pc9 : Nat) (lcs9 : List (Nat × Value)), decode cX5_room pc9 = .ok (.ireturn, 1) → narrow .int (.int x9) = .int x9 → cells9 ≤ 2 → slots9 ≤ 12 → X p l e ({ frames := 7, cells := 2, slots := 12, locals := 141 } : Room) s m args below meth c 4 cy D B cells9 slots9 (vx_MQ below (QX cy D B (Sum.map (fun x => some (Value.int x)) id res) σ Y) (XCX cy D B (Sum.map (fun x => some (Value.int x)) id res) σ Y) args s 2 12 (aB B)) pc9 lcs9 [.int x9] σ Y := fun x9 hx9 cells9 slots9 pc9 lcs9 hd hn h1 h2 => by rw [hx9]; exact x_zretX C hrT hlk hn hd h1 h2
  have hthr : ∀ (k9 : Nat), res = .inr k9 → ∀ (cells9 slots9 pc9 : Nat) (lcs9 : List (Nat × Value)), (ThrowS "HostelBeds" cX5_room pc9 k9 ∨ ThrowSW "HostelBeds" cX5_room pc9 k9 ∨ ThrowN "HostelBeds" cX5_room pc9 k9) → cells9 + 1 ≤ 2 → slots9 + 6 ≤ 12 → X p l e ({ frames := 7, cells := 2, slots := 12, locals := 141 } : Room) s m args below meth c 4 cy D B cells9 slots9 (vx_MQ below (QX cy D B (Sum.map (fun x => some (Value.int x)) id res) σ Y) (XCX cy D B (Sum.map (fun x => some (Value.int x)) id res) σ Y) args s 2 12 (aB B)) pc9 lcs9 [] σ Y := fun k9 hx9 cells9 slots9 pc9 lcs9 ht h1 h2 => by
    rw [hx9]
    rcases ht with ht | ht | ht
    · exact x_throwS C hlf ht htab (Nat.le_of_ble_eq_true rfl) (Nat.le_of_ble_eq_true rfl) h1 h2 hlk h1 h2
    · exact x_throwSW C hlf ht htab (Nat.le_of_ble_eq_true rfl) (Nat.le_of_ble_eq_true rfl) h1 h2 hlk h1 h2
    · exact x_throwN C hlf ht htab (Nat.le_of_ble_eq_true rfl) (Nat.le_of_ble_eq_true rfl) h1 h2 hlk h1 h2
  have hout : ∀ (k9 : Nat), res = .inr k9 → ∀ (cells9 slots9 pc9 : Nat) (lcs9 : List (Nat × Value)) (st9 : List Value), cells9 ≤ 2 → slots9 ≤ 12 → XO p l e ({ frames := 7, cells := 2, slots := 12, locals := 141 } : Room) s m args below meth c 4 cy D B cells9 slots9 (vx_MQ below (QX cy D B (Sum.map (fun x => some (Value.int x)) id res) σ Y) (XCX cy D B (Sum.map (fun x => some (Value.int x)) id res) σ Y) args s 2 12 (aB B)) pc9 lcs9 st9 σ Y k9 := fun k9 hx9 cells9 slots9 pc9 lcs9 st9 h1 h2 => by rw [hx9]; exact x_out C htab hlk h1 h2
  generalize (vx_MQ below (QX cy D B (Sum.map (fun x => some (Value.int x)) id res) σ Y) (XCX cy D B (Sum.map (fun x => some (Value.int x)) id res) σ Y) args s 2 12 (aB B)) = Q at hret hthr hout ⊢
  obtain ⟨R, hR9⟩ : ∃ R : Room, R = ({ frames := 7, cells := 2, slots := 12, locals := 141 } : Room) := ⟨_, rfl⟩
  rw [← hR9] at hret hthr hout ⊢
  unfold fX5_room at h
  show X p l e R s m args below meth c 4 cy D B 0 0 Q 0 [(0, .ref (B + oHB)), (1, .int p1), (2, .int p2)] [] σ Y
  refine x_aload_n C dX5_room_0 rfl 0 rfl ?_
  refine x_iload_n C dX5_room_1 rfl 1 rfl ?_
  obtain ⟨q1, hk1, h⟩ := Option.bind_eq_some_iff.mp h
  refine x_callVX C (As := [.int p1]) (rest := []) (cells2 := 1) (slots2 := 6) (lw_g_mk tw_409 rfl) (lw_g_mk tsel_1 rfl) (c_HB) (C1 := "HostelBeds") (T := TX5) (N := 12) (ci := 7) rfl (okX5_checkRoom l hlf cy D B ek p1 σ Y _ hk1) rfl rfl (by rw [hR9]; decide) (lw_g_mk tw_410 rfl) (lw_g_mk tw_1 rfl) (by decide) rfl (lw_g_mk tw_407 rfl) rfl (Nat.le_of_ble_eq_true rfl) dX5_room_2 (by rw [hR9]; decide) rfl rfl (fun v2 hv3 => ?_) (fun k4 hv5 => ?_)
  · rcases q1 with x2 | e3
    · rw [Sum.elim_inl] at h
      have hv3 : (Sum.inl (none) : Option Value ⊕ Nat) = .inl v2 := hv3
      cases hv3
      refine x_aload_n C dX5_room_5 rfl 0 rfl ?_
      refine x_get C (C1 := "HostelBeds") (T := TX5) (N := 12) (ci := 7) inXg5 _ (c_HB) rfl 2 (by decide) (lw_g_mk tw_287 rfl) rfl dX5_room_6 ?_
      obtain ⟨hg7, h⟩ := gd_some h
      refine x_get C (C1 := "HostelBeds$Hostel") (T := TX1) (N := 12) (ci := 3) inXg1 _ (c_Ho hg7) rfl 0 (by decide) (lw_g_mk tw_183 rfl) rfl dX5_room_9 ?_
      refine x_iload_n C dX5_room_12 rfl 1 rfl ?_
      obtain ⟨hg8, h⟩ := gd_some h
      refine x_aldq C _ 5 (C1 := "HostelBeds$Room") (c_Rms hg7) rfl hg8 rfl dX5_room_13 ?_
      refine x_astore_n C [(3, .ref (B + oRm (rP σ 0) p1.toNatClampNeg)), (0, .ref (B + oHB)), (1, .int p1), (2, .int p2)] dX5_room_14 rfl (by decide) rfl ?_
      refine x_iload_n C dX5_room_15 rfl 3 rfl ?_
      by_cases hc9 : p2 = 0
      · rw [if_pos hc9] at h
        refine x_tableIn C (tgt := 48) dX5_room_16 (by rw [hc9]; decide) (by rw [hc9]; decide) (by first | (rw [hc9]; done) | (rw [hc9]; rfl)) (by decide) ?_
        refine x_aload_n C dX5_room_48 rfl 0 rfl ?_
        refine x_get C (C1 := "HostelBeds$Room") (T := TX4) (N := 5) (ci := 6) inXg4 _ (c_Rm hg7 (inb_lt hg8)) rfl 1 (by decide) (lw_g_mk tw_82 rfl) rfl dX5_room_49 ?_
        cases h
        exact hret _ rfl _ _ _ _ dX5_room_52 rfl (by decide) (by decide)
      rw [if_neg hc9] at h
      by_cases hc10 : p2 = 1
      · rw [if_pos hc10] at h
        refine x_tableIn C (tgt := 53) dX5_room_16 (by rw [hc10]; decide) (by rw [hc10]; decide) (by first | (rw [hc10]; done) | (rw [hc10]; rfl)) (by decide) ?_
        refine x_aload_n C dX5_room_53 rfl 0 rfl ?_
        refine x_get C (C1 := "HostelBeds$Room") (T := TX4) (N := 5) (ci := 6) inXg4 _ (c_Rm hg7 (inb_lt hg8)) rfl 2 (by decide) (lw_g_mk tw_85 rfl) rfl dX5_room_54 ?_
        cases h
        exact hret _ rfl _ _ _ _ dX5_room_57 rfl (by decide) (by decide)
      rw [if_neg hc10] at h
      by_cases hc11 : p2 = 2
      · rw [if_pos hc11] at h
        refine x_tableIn C (tgt := 58) dX5_room_16 (by rw [hc11]; decide) (by rw [hc11]; decide) (by first | (rw [hc11]; done) | (rw [hc11]; rfl)) (by decide) ?_
        refine x_aload_n C dX5_room_58 rfl 0 rfl ?_
        refine x_get C (C1 := "HostelBeds$Room") (T := TX4) (N := 5) (ci := 6) inXg4 _ (c_Rm hg7 (inb_lt hg8)) rfl 3 (by decide) (lw_g_mk tw_88 rfl) rfl dX5_room_59 ?_
        cases h
        exact hret _ rfl _ _ _ _ dX5_room_62 rfl (by decide) (by decide)
      rw [if_neg hc11] at h
      by_cases hc12 : p2 = 3
      · rw [if_pos hc12] at h
        refine x_tableIn C (tgt := 63) dX5_room_16 (by rw [hc12]; decide) (by rw [hc12]; decide) (by first | (rw [hc12]; done) | (rw [hc12]; rfl)) (by decide) ?_
        refine x_aload_n C dX5_room_63 rfl 0 rfl ?_
        refine x_get C (C1 := "HostelBeds$Room") (T := TX4) (N := 5) (ci := 6) inXg4 _ (c_Rm hg7 (inb_lt hg8)) rfl 4 (by decide) (lw_g_mk tw_91 rfl) rfl dX5_room_64 ?_
        cases h
        exact hret _ rfl _ _ _ _ dX5_room_67 rfl (by decide) (by decide)
      rw [if_neg hc12] at h
      refine x_tableOut C (tgt := 68) dX5_room_16 (by have := lv_neT hc9 (a := 0) (by decide); have := lv_neT hc10 (a := 1) (by decide); have := lv_neT hc11 (a := 2) (by decide); have := lv_neT hc12 (a := 3) (by decide); omega) (by decide) ?_
      cases h
      exact hthr _ rfl _ _ _ _ (Or.inl ⟨66, 134, 70, "no such number of a room", dX5_room_68, dX5_room_71, dX5_room_72, dX5_room_74, dX5_room_77, lw_g_mk tw_330 rfl, lw_g_mk tw_10 rfl, (by decide +kernel), (by decide +kernel), (by decide +kernel), hat_2, hgood_2⟩) (by decide) (by decide)
    · cases hv3
  · rcases q1 with x2 | e3
    · cases hv5
    · rw [Sum.elim_inr] at h
      have hv5 : (Sum.inr e3 : Option Value ⊕ Nat) = .inr k4 := hv5
      cases hv5
      cases h
      exact hout _ rfl _ _ _ _ _ (by decide) (by decide)
def jX5_checkBooking_15 : Option ((Unit ⊕ Nat)) := (some (.inr 3))
def fX5_checkBooking (p1 : Int32) (σ : Mem) : Option ((Unit ⊕ Nat)) := (if p1 < 0 then (jX5_checkBooking_15) else (gd (rP σ 0 < 12) (if p1 < (rI σ 22 (rP σ 0) 0) then (some (.inl ())) else (jX5_checkBooking_15))))
set_option maxHeartbeats 4000000 in
set_option maxRecDepth 100000 in
theorem okX5_checkBooking (l : Launch) (hlf : l.stackTraces = false) (cy : Nat → ClassId) (D : va_G) (B : Nat) (ek : EK) (p1 : Int32) (σ : Mem) (Y : va_W) (res : (Unit ⊕ Nat)) (h : fX5_checkBooking p1 σ = some res) : CTX l cy D B ek yX5_checkBooking cX5_checkBooking 2 none ({ frames := 6, cells := 1, slots := 6, locals := 120 } : Room) 1 6 [.ref (B + oHB), .int p1] σ Y (Sum.map (fun _ => (none : Option Value)) id res) σ Y := by
  refine met_XX (own := "HostelBeds") (by decide) rfl (Nat.le_of_ble_eq_true rfl) ?_
  intro p e s m args below meth c C hrT hlk htab
  have hret : ∀ (x9 : Unit), res = .inl x9 → ∀ (cells9 slots9 pc9 : Nat) (lcs9 : List (Nat × Value)), decode cX5_checkBooking pc9 = .ok (.return_, 1) → cells9 ≤ 1 → slots9 ≤ 6 → X p l e ({ frames := 6, cells := 1, slots := 6, locals := 120 } : Room) s m args below meth c 2 cy D B cells9 slots9 (vx_MQ below (QX cy D B (Sum.map (fun _ => (none : Option Value)) id res) σ Y) (XCX cy D B (Sum.map (fun _ => (none : Option Value)) id res) σ Y) args s 1 6 (aB B)) pc9 lcs9 [] σ Y := fun x9 hx9 cells9 slots9 pc9 lcs9 hd h1 h2 => by rw [hx9]; exact x_vretX C hrT hlk hd h1 h2
  have hthr : ∀ (k9 : Nat), res = .inr k9 → ∀ (cells9 slots9 pc9 : Nat) (lcs9 : List (Nat × Value)), (ThrowS "HostelBeds" cX5_checkBooking pc9 k9 ∨ ThrowSW "HostelBeds" cX5_checkBooking pc9 k9 ∨ ThrowN "HostelBeds" cX5_checkBooking pc9 k9) → cells9 + 1 ≤ 1 → slots9 + 6 ≤ 6 → X p l e ({ frames := 6, cells := 1, slots := 6, locals := 120 } : Room) s m args below meth c 2 cy D B cells9 slots9 (vx_MQ below (QX cy D B (Sum.map (fun _ => (none : Option Value)) id res) σ Y) (XCX cy D B (Sum.map (fun _ => (none : Option Value)) id res) σ Y) args s 1 6 (aB B)) pc9 lcs9 [] σ Y := fun k9 hx9 cells9 slots9 pc9 lcs9 ht h1 h2 => by
    rw [hx9]
    rcases ht with ht | ht | ht
    · exact x_throwS C hlf ht htab (Nat.le_of_ble_eq_true rfl) (Nat.le_of_ble_eq_true rfl) h1 h2 hlk h1 h2
    · exact x_throwSW C hlf ht htab (Nat.le_of_ble_eq_true rfl) (Nat.le_of_ble_eq_true rfl) h1 h2 hlk h1 h2
    · exact x_throwN C hlf ht htab (Nat.le_of_ble_eq_true rfl) (Nat.le_of_ble_eq_true rfl) h1 h2 hlk h1 h2
  have hout : ∀ (k9 : Nat), res = .inr k9 → ∀ (cells9 slots9 pc9 : Nat) (lcs9 : List (Nat × Value)) (st9 : List Value), cells9 ≤ 1 → slots9 ≤ 6 → XO p l e ({ frames := 6, cells := 1, slots := 6, locals := 120 } : Room) s m args below meth c 2 cy D B cells9 slots9 (vx_MQ below (QX cy D B (Sum.map (fun _ => (none : Option Value)) id res) σ Y) (XCX cy D B (Sum.map (fun _ => (none : Option Value)) id res) σ Y) args s 1 6 (aB B)) pc9 lcs9 st9 σ Y k9 := fun k9 hx9 cells9 slots9 pc9 lcs9 st9 h1 h2 => by rw [hx9]; exact x_out C htab hlk h1 h2
  generalize (vx_MQ below (QX cy D B (Sum.map (fun _ => (none : Option Value)) id res) σ Y) (XCX cy D B (Sum.map (fun _ => (none : Option Value)) id res) σ Y) args s 1 6 (aB B)) = Q at hret hthr hout ⊢
  obtain ⟨R, hR9⟩ : ∃ R : Room, R = ({ frames := 6, cells := 1, slots := 6, locals := 120 } : Room) := ⟨_, rfl⟩
  rw [← hR9] at hret hthr hout ⊢
  unfold fX5_checkBooking at h
  show X p l e R s m args below meth c 2 cy D B 0 0 Q 0 [(0, .ref (B + oHB)), (1, .int p1)] [] σ Y
  refine x_iload_n C dX5_checkBooking_0 rfl 1 rfl ?_
  have hJ1 : ∀ (r9 : (Unit ⊕ Nat)), jX5_checkBooking_15 = some r9 → (∀ (x9 : Unit), r9 = .inl x9 → ∀ (cells9 slots9 pc9 : Nat) (lcs9 : List (Nat × Value)), decode cX5_checkBooking pc9 = .ok (.return_, 1) → cells9 ≤ 1 → slots9 ≤ 6 → X p l e R s m args below meth c 2 cy D B cells9 slots9 Q pc9 lcs9 [] σ Y) → (∀ (k9 : Nat), r9 = .inr k9 → ∀ (cells9 slots9 pc9 : Nat) (lcs9 : List (Nat × Value)), (ThrowS "HostelBeds" cX5_checkBooking pc9 k9 ∨ ThrowSW "HostelBeds" cX5_checkBooking pc9 k9 ∨ ThrowN "HostelBeds" cX5_checkBooking pc9 k9) → cells9 + 1 ≤ 1 → slots9 + 6 ≤ 6 → X p l e R s m args below meth c 2 cy D B cells9 slots9 Q pc9 lcs9 [] σ Y) → (∀ (k9 : Nat), r9 = .inr k9 → ∀ (cells9 slots9 pc9 : Nat) (lcs9 : List (Nat × Value)) (st9 : List Value), cells9 ≤ 1 → slots9 ≤ 6 → XO p l e R s m args below meth c 2 cy D B cells9 slots9 Q pc9 lcs9 st9 σ Y k9) → X p l e R s m args below meth c 2 cy D B 0 0 Q 15 [] [] σ Y := by
    intro res9 h hret hthr hout
    unfold jX5_checkBooking_15 at h
    cases h
    exact hthr _ rfl _ _ _ _ (Or.inr (Or.inl ⟨192, 354, 196, "no such booking", dX5_checkBooking_15, dX5_checkBooking_18, dX5_checkBooking_19, dX5_checkBooking_22, dX5_checkBooking_25, lw_g_mk tw_411 rfl, lw_g_mk tw_24 rfl, (by decide +kernel), (by decide +kernel), (by decide +kernel), hat_3, hgood_3⟩)) (by decide) (by decide)
  refine x_if_lt C (tgt := 15) dX5_checkBooking_1 (by decide) (fun hc2 => ?_) (fun hc2 => ?_)
  · rw [if_pos hc2] at h
    refine x_sub [] rfl ?_
    exact hJ1 _ h hret hthr hout
  · rw [if_neg hc2] at h
    refine x_iload_n C dX5_checkBooking_4 rfl 1 rfl ?_
    refine x_aload_n C dX5_checkBooking_5 rfl 0 rfl ?_
    refine x_get C (C1 := "HostelBeds") (T := TX5) (N := 12) (ci := 7) inXg5 _ (c_HB) rfl 2 (by decide) (lw_g_mk tw_287 rfl) rfl dX5_checkBooking_6 ?_
    obtain ⟨hg3, h⟩ := gd_some h
    refine x_get C (C1 := "HostelBeds$Hostel") (T := TX1) (N := 12) (ci := 3) inXg1 _ (c_Ho hg3) rfl 4 (by decide) (lw_g_mk tw_198 rfl) rfl dX5_checkBooking_9 ?_
    refine x_icmp_lt C (tgt := 26) dX5_checkBooking_12 (by decide) (fun hc4 => ?_) (fun hc4 => ?_)
    · rw [if_pos hc4] at h
      cases h
      exact hret _ rfl _ _ _ _ dX5_checkBooking_26 (by decide) (by decide)
    · rw [if_neg hc4] at h
      refine x_sub [] rfl ?_
      exact hJ1 _ h hret hthr hout
def fX5_booking (p1 : Int32) (p2 : Int32) (σ : Mem) : Option ((Int32 ⊕ Nat)) := ((fX5_checkBooking p1 σ).bind fun q1 => Sum.elim (fun x2 => (gd (rP σ 0 < 12) (gd (inb p1 17) (if p2 = (0 : Int32) then (some (.inl (rI σ 40 (rP σ 0) p1.toNatClampNeg))) else (if p2 = (1 : Int32) then (some (.inl (rI σ 41 (rP σ 0) p1.toNatClampNeg))) else (if p2 = (2 : Int32) then (some (.inl (rI σ 42 (rP σ 0) p1.toNatClampNeg))) else (if p2 = (3 : Int32) then (some (.inl (rI σ 43 (rP σ 0) p1.toNatClampNeg))) else (if p2 = (4 : Int32) then (some (.inl (rI σ 45 (rP σ 0) p1.toNatClampNeg))) else (if p2 = (5 : Int32) then (some (.inl (rI σ 46 (rP σ 0) p1.toNatClampNeg))) else (if p2 = (6 : Int32) then (if (rI σ 47 (rP σ 0) p1.toNatClampNeg) = 0 then (some (.inl (0 : Int32))) else (some (.inl (1 : Int32)))) else (if p2 = (7 : Int32) then (if (rI σ 48 (rP σ 0) p1.toNatClampNeg) = 0 then (some (.inl (0 : Int32))) else (some (.inl (1 : Int32)))) else (some (.inr 2))))))))))))) (fun e3 => (some (.inr e3))) q1)
set_option maxHeartbeats 4000000 in
set_option maxRecDepth 100000 in
theorem okX5_booking (l : Launch) (hlf : l.stackTraces = false) (cy : Nat → ClassId) (D : va_G) (B : Nat) (ek : EK) (p1 : Int32) (p2 : Int32) (σ : Mem) (Y : va_W) (res : (Int32 ⊕ Nat)) (h : fX5_booking p1 p2 σ = some res) : CTX l cy D B ek yX5_booking cX5_booking 4 (some .int) ({ frames := 7, cells := 2, slots := 12, locals := 141 } : Room) 2 12 [.ref (B + oHB), .int p1, .int p2] σ Y (Sum.map (fun x => some (Value.int x)) id res) σ Y := by
  refine met_XX (own := "HostelBeds") (by decide) rfl (Nat.le_of_ble_eq_true rfl) ?_
  intro p e s m args below meth c C hrT hlk htab
  have hret : ∀ (x9 : Int32), res = .inl x9 → ∀ (cells9 slots9 pc9 : Nat) (lcs9 : List (Nat × Value)), decode cX5_booking pc9 = .ok (.ireturn, 1) → narrow .int (.int x9) = .int x9 → cells9 ≤ 2 → slots9 ≤ 12 → X p l e ({ frames := 7, cells := 2, slots := 12, locals := 141 } : Room) s m args below meth c 4 cy D B cells9 slots9 (vx_MQ below (QX cy D B (Sum.map (fun x => some (Value.int x)) id res) σ Y) (XCX cy D B (Sum.map (fun x => some (Value.int x)) id res) σ Y) args s 2 12 (aB B)) pc9 lcs9 [.int x9] σ Y := fun x9 hx9 cells9 slots9 pc9 lcs9 hd hn h1 h2 => by rw [hx9]; exact x_zretX C hrT hlk hn hd h1 h2
  have hthr : ∀ (k9 : Nat), res = .inr k9 → ∀ (cells9 slots9 pc9 : Nat) (lcs9 : List (Nat × Value)), (ThrowS "HostelBeds" cX5_booking pc9 k9 ∨ ThrowSW "HostelBeds" cX5_booking pc9 k9 ∨ ThrowN "HostelBeds" cX5_booking pc9 k9) → cells9 + 1 ≤ 2 → slots9 + 6 ≤ 12 → X p l e ({ frames := 7, cells := 2, slots := 12, locals := 141 } : Room) s m args below meth c 4 cy D B cells9 slots9 (vx_MQ below (QX cy D B (Sum.map (fun x => some (Value.int x)) id res) σ Y) (XCX cy D B (Sum.map (fun x => some (Value.int x)) id res) σ Y) args s 2 12 (aB B)) pc9 lcs9 [] σ Y := fun k9 hx9 cells9 slots9 pc9 lcs9 ht h1 h2 => by
    rw [hx9]
    rcases ht with ht | ht | ht
    · exact x_throwS C hlf ht htab (Nat.le_of_ble_eq_true rfl) (Nat.le_of_ble_eq_true rfl) h1 h2 hlk h1 h2
    · exact x_throwSW C hlf ht htab (Nat.le_of_ble_eq_true rfl) (Nat.le_of_ble_eq_true rfl) h1 h2 hlk h1 h2
    · exact x_throwN C hlf ht htab (Nat.le_of_ble_eq_true rfl) (Nat.le_of_ble_eq_true rfl) h1 h2 hlk h1 h2
  have hout : ∀ (k9 : Nat), res = .inr k9 → ∀ (cells9 slots9 pc9 : Nat) (lcs9 : List (Nat × Value)) (st9 : List Value), cells9 ≤ 2 → slots9 ≤ 12 → XO p l e ({ frames := 7, cells := 2, slots := 12, locals := 141 } : Room) s m args below meth c 4 cy D B cells9 slots9 (vx_MQ below (QX cy D B (Sum.map (fun x => some (Value.int x)) id res) σ Y) (XCX cy D B (Sum.map (fun x => some (Value.int x)) id res) σ Y) args s 2 12 (aB B)) pc9 lcs9 st9 σ Y k9 := fun k9 hx9 cells9 slots9 pc9 lcs9 st9 h1 h2 => by rw [hx9]; exact x_out C htab hlk h1 h2
  generalize (vx_MQ below (QX cy D B (Sum.map (fun x => some (Value.int x)) id res) σ Y) (XCX cy D B (Sum.map (fun x => some (Value.int x)) id res) σ Y) args s 2 12 (aB B)) = Q at hret hthr hout ⊢
  obtain ⟨R, hR9⟩ : ∃ R : Room, R = ({ frames := 7, cells := 2, slots := 12, locals := 141 } : Room) := ⟨_, rfl⟩
  rw [← hR9] at hret hthr hout ⊢
  unfold fX5_booking at h
  show X p l e R s m args below meth c 4 cy D B 0 0 Q 0 [(0, .ref (B + oHB)), (1, .int p1), (2, .int p2)] [] σ Y
  refine x_aload_n C dX5_booking_0 rfl 0 rfl ?_
  refine x_iload_n C dX5_booking_1 rfl 1 rfl ?_
  obtain ⟨q1, hk1, h⟩ := Option.bind_eq_some_iff.mp h
  refine x_callVX C (As := [.int p1]) (rest := []) (cells2 := 1) (slots2 := 6) (lw_g_mk tw_434 rfl) (lw_g_mk tsel_2 rfl) (c_HB) (C1 := "HostelBeds") (T := TX5) (N := 12) (ci := 7) rfl (okX5_checkBooking l hlf cy D B ek p1 σ Y _ hk1) rfl rfl (by rw [hR9]; decide) (lw_g_mk tw_435 rfl) (lw_g_mk tw_1 rfl) (by decide) rfl (lw_g_mk tw_432 rfl) rfl (Nat.le_of_ble_eq_true rfl) dX5_booking_2 (by rw [hR9]; decide) rfl rfl (fun v2 hv3 => ?_) (fun k4 hv5 => ?_)
  · rcases q1 with x2 | e3
    · rw [Sum.elim_inl] at h
      have hv3 : (Sum.inl (none) : Option Value ⊕ Nat) = .inl v2 := hv3
      cases hv3
      refine x_aload_n C dX5_booking_5 rfl 0 rfl ?_
      refine x_get C (C1 := "HostelBeds") (T := TX5) (N := 12) (ci := 7) inXg5 _ (c_HB) rfl 2 (by decide) (lw_g_mk tw_287 rfl) rfl dX5_booking_6 ?_
      obtain ⟨hg7, h⟩ := gd_some h
      refine x_get C (C1 := "HostelBeds$Hostel") (T := TX1) (N := 12) (ci := 3) inXg1 _ (c_Ho hg7) rfl 3 (by decide) (lw_g_mk tw_195 rfl) rfl dX5_booking_9 ?_
      refine x_iload_n C dX5_booking_12 rfl 1 rfl ?_
      obtain ⟨hg8, h⟩ := gd_some h
      refine x_aldq C _ 6 (C1 := "HostelBeds$Booking") (c_Bks hg7) rfl hg8 rfl dX5_booking_13 ?_
      refine x_astore_n C [(3, .ref (B + oBk (rP σ 0) p1.toNatClampNeg)), (0, .ref (B + oHB)), (1, .int p1), (2, .int p2)] dX5_booking_14 rfl (by decide) rfl ?_
      refine x_iload_n C dX5_booking_15 rfl 3 rfl ?_
      by_cases hc9 : p2 = 0
      · rw [if_pos hc9] at h
        refine x_tableIn C (tgt := 64) dX5_booking_16 (by rw [hc9]; decide) (by rw [hc9]; decide) (by first | (rw [hc9]; done) | (rw [hc9]; rfl)) (by decide) ?_
        refine x_aload_n C dX5_booking_64 rfl 0 rfl ?_
        refine x_get C (C1 := "HostelBeds$Booking") (T := TX0) (N := 11) (ci := 2) inXg0 _ (c_Bk hg7 (inb_lt hg8)) rfl 1 (by decide) (lw_g_mk tw_116 rfl) rfl dX5_booking_65 ?_
        cases h
        exact hret _ rfl _ _ _ _ dX5_booking_68 rfl (by decide) (by decide)
      rw [if_neg hc9] at h
      by_cases hc10 : p2 = 1
      · rw [if_pos hc10] at h
        refine x_tableIn C (tgt := 69) dX5_booking_16 (by rw [hc10]; decide) (by rw [hc10]; decide) (by first | (rw [hc10]; done) | (rw [hc10]; rfl)) (by decide) ?_
        refine x_aload_n C dX5_booking_69 rfl 0 rfl ?_
        refine x_get C (C1 := "HostelBeds$Booking") (T := TX0) (N := 11) (ci := 2) inXg0 _ (c_Bk hg7 (inb_lt hg8)) rfl 2 (by decide) (lw_g_mk tw_119 rfl) rfl dX5_booking_70 ?_
        cases h
        exact hret _ rfl _ _ _ _ dX5_booking_73 rfl (by decide) (by decide)
      rw [if_neg hc10] at h
      by_cases hc11 : p2 = 2
      · rw [if_pos hc11] at h
        refine x_tableIn C (tgt := 74) dX5_booking_16 (by rw [hc11]; decide) (by rw [hc11]; decide) (by first | (rw [hc11]; done) | (rw [hc11]; rfl)) (by decide) ?_
        refine x_aload_n C dX5_booking_74 rfl 0 rfl ?_
        refine x_get C (C1 := "HostelBeds$Booking") (T := TX0) (N := 11) (ci := 2) inXg0 _ (c_Bk hg7 (inb_lt hg8)) rfl 3 (by decide) (lw_g_mk tw_124 rfl) rfl dX5_booking_75 ?_
        cases h
        exact hret _ rfl _ _ _ _ dX5_booking_78 rfl (by decide) (by decide)
      rw [if_neg hc11] at h
      by_cases hc12 : p2 = 3
      · rw [if_pos hc12] at h
        refine x_tableIn C (tgt := 79) dX5_booking_16 (by rw [hc12]; decide) (by rw [hc12]; decide) (by first | (rw [hc12]; done) | (rw [hc12]; rfl)) (by decide) ?_
        refine x_aload_n C dX5_booking_79 rfl 0 rfl ?_
        refine x_get C (C1 := "HostelBeds$Booking") (T := TX0) (N := 11) (ci := 2) inXg0 _ (c_Bk hg7 (inb_lt hg8)) rfl 4 (by decide) (lw_g_mk tw_128 rfl) rfl dX5_booking_80 ?_
        cases h
        exact hret _ rfl _ _ _ _ dX5_booking_83 rfl (by decide) (by decide)
      rw [if_neg hc12] at h
      by_cases hc13 : p2 = 4
      · rw [if_pos hc13] at h
        refine x_tableIn C (tgt := 84) dX5_booking_16 (by rw [hc13]; decide) (by rw [hc13]; decide) (by first | (rw [hc13]; done) | (rw [hc13]; rfl)) (by decide) ?_
        refine x_aload_n C dX5_booking_84 rfl 0 rfl ?_
        refine x_get C (C1 := "HostelBeds$Booking") (T := TX0) (N := 11) (ci := 2) inXg0 _ (c_Bk hg7 (inb_lt hg8)) rfl 6 (by decide) (lw_g_mk tw_135 rfl) rfl dX5_booking_85 ?_
        cases h
        exact hret _ rfl _ _ _ _ dX5_booking_88 rfl (by decide) (by decide)
      rw [if_neg hc13] at h
      by_cases hc14 : p2 = 5
      · rw [if_pos hc14] at h
        refine x_tableIn C (tgt := 89) dX5_booking_16 (by rw [hc14]; decide) (by rw [hc14]; decide) (by first | (rw [hc14]; done) | (rw [hc14]; rfl)) (by decide) ?_
        refine x_aload_n C dX5_booking_89 rfl 0 rfl ?_
        refine x_get C (C1 := "HostelBeds$Booking") (T := TX0) (N := 11) (ci := 2) inXg0 _ (c_Bk hg7 (inb_lt hg8)) rfl 7 (by decide) (lw_g_mk tw_138 rfl) rfl dX5_booking_90 ?_
        cases h
        exact hret _ rfl _ _ _ _ dX5_booking_93 rfl (by decide) (by decide)
      rw [if_neg hc14] at h
      by_cases hc15 : p2 = 6
      · rw [if_pos hc15] at h
        refine x_tableIn C (tgt := 94) dX5_booking_16 (by rw [hc15]; decide) (by rw [hc15]; decide) (by first | (rw [hc15]; done) | (rw [hc15]; rfl)) (by decide) ?_
        refine x_aload_n C dX5_booking_94 rfl 0 rfl ?_
        refine x_get C (C1 := "HostelBeds$Booking") (T := TX0) (N := 11) (ci := 2) inXg0 _ (c_Bk hg7 (inb_lt hg8)) rfl 8 (by decide) (lw_g_mk tw_141 rfl) rfl dX5_booking_95 ?_
        refine x_if_eq C (tgt := 105) dX5_booking_98 (by decide) (fun hc16 => ?_) (fun hc16 => ?_)
        · rw [if_pos hc16] at h
          refine x_iconst C (v := 0) dX5_booking_105 (by decide) ?_
          cases h
          exact hret _ rfl _ _ _ _ dX5_booking_106 rfl (by decide) (by decide)
        · rw [if_neg hc16] at h
          refine x_iconst C (v := 1) dX5_booking_101 (by decide) ?_
          refine x_goto C (tgt := 106) dX5_booking_102 (by decide) ?_
          cases h
          exact hret _ rfl _ _ _ _ dX5_booking_106 rfl (by decide) (by decide)
      rw [if_neg hc15] at h
      by_cases hc17 : p2 = 7
      · rw [if_pos hc17] at h
        refine x_tableIn C (tgt := 107) dX5_booking_16 (by rw [hc17]; decide) (by rw [hc17]; decide) (by first | (rw [hc17]; done) | (rw [hc17]; rfl)) (by decide) ?_
        refine x_aload_n C dX5_booking_107 rfl 0 rfl ?_
        refine x_get C (C1 := "HostelBeds$Booking") (T := TX0) (N := 11) (ci := 2) inXg0 _ (c_Bk hg7 (inb_lt hg8)) rfl 9 (by decide) (lw_g_mk tw_145 rfl) rfl dX5_booking_108 ?_
        refine x_if_eq C (tgt := 118) dX5_booking_111 (by decide) (fun hc18 => ?_) (fun hc18 => ?_)
        · rw [if_pos hc18] at h
          refine x_iconst C (v := 0) dX5_booking_118 (by decide) ?_
          cases h
          exact hret _ rfl _ _ _ _ dX5_booking_119 rfl (by decide) (by decide)
        · rw [if_neg hc18] at h
          refine x_iconst C (v := 1) dX5_booking_114 (by decide) ?_
          refine x_goto C (tgt := 119) dX5_booking_115 (by decide) ?_
          cases h
          exact hret _ rfl _ _ _ _ dX5_booking_119 rfl (by decide) (by decide)
      rw [if_neg hc17] at h
      refine x_tableOut C (tgt := 120) dX5_booking_16 (by have := lv_neT hc9 (a := 0) (by decide); have := lv_neT hc10 (a := 1) (by decide); have := lv_neT hc11 (a := 2) (by decide); have := lv_neT hc12 (a := 3) (by decide); have := lv_neT hc13 (a := 4) (by decide); have := lv_neT hc14 (a := 5) (by decide); have := lv_neT hc15 (a := 6) (by decide); have := lv_neT hc17 (a := 7) (by decide); omega) (by decide) ?_
      cases h
      exact hthr _ rfl _ _ _ _ (Or.inl ⟨66, 168, 70, "no such number of a booking", dX5_booking_120, dX5_booking_123, dX5_booking_124, dX5_booking_126, dX5_booking_129, lw_g_mk tw_330 rfl, lw_g_mk tw_10 rfl, (by decide +kernel), (by decide +kernel), (by decide +kernel), hat_2, hgood_2⟩) (by decide) (by decide)
    · cases hv3
  · rcases q1 with x2 | e3
    · cases hv5
    · rw [Sum.elim_inr] at h
      have hv5 : (Sum.inr e3 : Option Value ⊕ Nat) = .inr k4 := hv5
      cases hv5
      cases h
      exact hout _ rfl _ _ _ _ _ (by decide) (by decide)
def fX5_state (p1 : Int32) (σ : Mem) : Option ((Int32 ⊕ Nat)) := ((fX5_checkBooking p1 σ).bind fun q1 => Sum.elim (fun x2 => (gd (rP σ 0 < 12) (gd (inb p1 17) (some (.inl (rI σ 49 (rP σ 0) p1.toNatClampNeg)))))) (fun e3 => (some (.inr e3))) q1)
set_option maxHeartbeats 4000000 in
set_option maxRecDepth 100000 in
theorem okX5_state (l : Launch) (hlf : l.stackTraces = false) (cy : Nat → ClassId) (D : va_G) (B : Nat) (ek : EK) (p1 : Int32) (σ : Mem) (Y : va_W) (res : (Int32 ⊕ Nat)) (h : fX5_state p1 σ = some res) : CTX l cy D B ek yX5_state cX5_state 2 (some .int) ({ frames := 7, cells := 1, slots := 6, locals := 141 } : Room) 1 6 [.ref (B + oHB), .int p1] σ Y (Sum.map (fun x => some (Value.int x)) id res) σ Y := by
  refine met_XX (own := "HostelBeds") (by decide) rfl (Nat.le_of_ble_eq_true rfl) ?_
  intro p e s m args below meth c C hrT hlk htab
  have hret : ∀ (x9 : Int32), res = .inl x9 → ∀ (cells9 slots9 pc9 : Nat) (lcs9 : List (Nat × Value)), decode cX5_state pc9 = .ok (.ireturn, 1) → narrow .int (.int x9) = .int x9 → cells9 ≤ 1 → slots9 ≤ 6 → X p l e ({ frames := 7, cells := 1, slots := 6, locals := 141 } : Room) s m args below meth c 2 cy D B cells9 slots9 (vx_MQ below (QX cy D B (Sum.map (fun x => some (Value.int x)) id res) σ Y) (XCX cy D B (Sum.map (fun x => some (Value.int x)) id res) σ Y) args s 1 6 (aB B)) pc9 lcs9 [.int x9] σ Y := fun x9 hx9 cells9 slots9 pc9 lcs9 hd hn h1 h2 => by rw [hx9]; exact x_zretX C hrT hlk hn hd h1 h2
  have hout : ∀ (k9 : Nat), res = .inr k9 → ∀ (cells9 slots9 pc9 : Nat) (lcs9 : List (Nat × Value)) (st9 : List Value), cells9 ≤ 1 → slots9 ≤ 6 → XO p l e ({ frames := 7, cells := 1, slots := 6, locals := 141 } : Room) s m args below meth c 2 cy D B cells9 slots9 (vx_MQ below (QX cy D B (Sum.map (fun x => some (Value.int x)) id res) σ Y) (XCX cy D B (Sum.map (fun x => some (Value.int x)) id res) σ Y) args s 1 6 (aB B)) pc9 lcs9 st9 σ Y k9 := fun k9 hx9 cells9 slots9 pc9 lcs9 st9 h1 h2 => by rw [hx9]; exact x_out C htab hlk h1 h2
  have hthr : True := trivial
  generalize (vx_MQ below (QX cy D B (Sum.map (fun x => some (Value.int x)) id res) σ Y) (XCX cy D B (Sum.map (fun x => some (Value.int x)) id res) σ Y) args s 1 6 (aB B)) = Q at hret hthr hout ⊢
  obtain ⟨R, hR9⟩ : ∃ R : Room, R = ({ frames := 7, cells := 1, slots := 6, locals := 141 } : Room) := ⟨_, rfl⟩
  rw [← hR9] at hret hout ⊢
  unfold fX5_state at h
  show X p l e R s m args below meth c 2 cy D B 0 0 Q 0 [(0, .ref (B + oHB)), (1, .int p1)] [] σ Y
  refine x_aload_n C dX5_state_0 rfl 0 rfl ?_
  refine x_iload_n C dX5_state_1 rfl 1 rfl ?_
  obtain ⟨q1, hk1, h⟩ := Option.bind_eq_some_iff.mp h
  refine x_callVX C (As := [.int p1]) (rest := []) (cells2 := 1) (slots2 := 6) (lw_g_mk tw_434 rfl) (lw_g_mk tsel_2 rfl) (c_HB) (C1 := "HostelBeds") (T := TX5) (N := 12) (ci := 7) rfl (okX5_checkBooking l hlf cy D B ek p1 σ Y _ hk1) rfl rfl (by rw [hR9]; decide) (lw_g_mk tw_435 rfl) (lw_g_mk tw_1 rfl) (by decide) rfl (lw_g_mk tw_432 rfl) rfl (Nat.le_of_ble_eq_true rfl) dX5_state_2 (by rw [hR9]; decide) rfl rfl (fun v2 hv3 => ?_) (fun k4 hv5 => ?_)
  · rcases q1 with x2 | e3
    · rw [Sum.elim_inl] at h
      have hv3 : (Sum.inl (none) : Option Value ⊕ Nat) = .inl v2 := hv3
      cases hv3
      refine x_aload_n C dX5_state_5 rfl 0 rfl ?_
      refine x_get C (C1 := "HostelBeds") (T := TX5) (N := 12) (ci := 7) inXg5 _ (c_HB) rfl 2 (by decide) (lw_g_mk tw_287 rfl) rfl dX5_state_6 ?_
      obtain ⟨hg7, h⟩ := gd_some h
      refine x_get C (C1 := "HostelBeds$Hostel") (T := TX1) (N := 12) (ci := 3) inXg1 _ (c_Ho hg7) rfl 3 (by decide) (lw_g_mk tw_195 rfl) rfl dX5_state_9 ?_
      refine x_iload_n C dX5_state_12 rfl 1 rfl ?_
      obtain ⟨hg8, h⟩ := gd_some h
      refine x_aldq C _ 6 (C1 := "HostelBeds$Booking") (c_Bks hg7) rfl hg8 rfl dX5_state_13 ?_
      refine x_get C (C1 := "HostelBeds$Booking") (T := TX0) (N := 11) (ci := 2) inXg0 _ (c_Bk hg7 (inb_lt hg8)) rfl 10 (by decide) (lw_g_mk tw_149 rfl) rfl dX5_state_14 ?_
      cases h
      exact hret _ rfl _ _ _ _ dX5_state_17 rfl (by decide) (by decide)
    · cases hv3
  · rcases q1 with x2 | e3
    · cases hv5
    · rw [Sum.elim_inr] at h
      have hv5 : (Sum.inr e3 : Option Value ⊕ Nat) = .inr k4 := hv5
      cases hv5
      cases h
      exact hout _ rfl _ _ _ _ _ (by decide) (by decide)
def jX5_waiting_15 : Option ((Int32 ⊕ Nat)) := (some (.inr 3))
def fX5_waiting (p1 : Int32) (σ : Mem) : Option ((Int32 ⊕ Nat)) := (if p1 < 0 then (jX5_waiting_15) else (gd (rP σ 0 < 12) (if p1 < (rI σ 23 (rP σ 0) 0) then (gd (inb p1 17) (some (.inl (rI σ 28 (rP σ 0) p1.toNatClampNeg)))) else (jX5_waiting_15))))
set_option maxHeartbeats 4000000 in
set_option maxRecDepth 100000 in
theorem okX5_waiting (l : Launch) (hlf : l.stackTraces = false) (cy : Nat → ClassId) (D : va_G) (B : Nat) (ek : EK) (p1 : Int32) (σ : Mem) (Y : va_W) (res : (Int32 ⊕ Nat)) (h : fX5_waiting p1 σ = some res) : CTX l cy D B ek yX5_waiting cX5_waiting 2 (some .int) ({ frames := 6, cells := 1, slots := 6, locals := 120 } : Room) 1 6 [.ref (B + oHB), .int p1] σ Y (Sum.map (fun x => some (Value.int x)) id res) σ Y := by
  refine met_XX (own := "HostelBeds") (by decide) rfl (Nat.le_of_ble_eq_true rfl) ?_
  intro p e s m args below meth c C hrT hlk htab
  have hret : ∀ (x9 : Int32), res = .inl x9 → ∀ (cells9 slots9 pc9 : Nat) (lcs9 : List (Nat × Value)), decode cX5_waiting pc9 = .ok (.ireturn, 1) → narrow .int (.int x9) = .int x9 → cells9 ≤ 1 → slots9 ≤ 6 → X p l e ({ frames := 6, cells := 1, slots := 6, locals := 120 } : Room) s m args below meth c 2 cy D B cells9 slots9 (vx_MQ below (QX cy D B (Sum.map (fun x => some (Value.int x)) id res) σ Y) (XCX cy D B (Sum.map (fun x => some (Value.int x)) id res) σ Y) args s 1 6 (aB B)) pc9 lcs9 [.int x9] σ Y := fun x9 hx9 cells9 slots9 pc9 lcs9 hd hn h1 h2 => by rw [hx9]; exact x_zretX C hrT hlk hn hd h1 h2
  have hthr : ∀ (k9 : Nat), res = .inr k9 → ∀ (cells9 slots9 pc9 : Nat) (lcs9 : List (Nat × Value)), (ThrowS "HostelBeds" cX5_waiting pc9 k9 ∨ ThrowSW "HostelBeds" cX5_waiting pc9 k9 ∨ ThrowN "HostelBeds" cX5_waiting pc9 k9) → cells9 + 1 ≤ 1 → slots9 + 6 ≤ 6 → X p l e ({ frames := 6, cells := 1, slots := 6, locals := 120 } : Room) s m args below meth c 2 cy D B cells9 slots9 (vx_MQ below (QX cy D B (Sum.map (fun x => some (Value.int x)) id res) σ Y) (XCX cy D B (Sum.map (fun x => some (Value.int x)) id res) σ Y) args s 1 6 (aB B)) pc9 lcs9 [] σ Y := fun k9 hx9 cells9 slots9 pc9 lcs9 ht h1 h2 => by
    rw [hx9]
    rcases ht with ht | ht | ht
    · exact x_throwS C hlf ht htab (Nat.le_of_ble_eq_true rfl) (Nat.le_of_ble_eq_true rfl) h1 h2 hlk h1 h2
    · exact x_throwSW C hlf ht htab (Nat.le_of_ble_eq_true rfl) (Nat.le_of_ble_eq_true rfl) h1 h2 hlk h1 h2
    · exact x_throwN C hlf ht htab (Nat.le_of_ble_eq_true rfl) (Nat.le_of_ble_eq_true rfl) h1 h2 hlk h1 h2
  have hout : ∀ (k9 : Nat), res = .inr k9 → ∀ (cells9 slots9 pc9 : Nat) (lcs9 : List (Nat × Value)) (st9 : List Value), cells9 ≤ 1 → slots9 ≤ 6 → XO p l e ({ frames := 6, cells := 1, slots := 6, locals := 120 } : Room) s m args below meth c 2 cy D B cells9 slots9 (vx_MQ below (QX cy D B (Sum.map (fun x => some (Value.int x)) id res) σ Y) (XCX cy D B (Sum.map (fun x => some (Value.int x)) id res) σ Y) args s 1 6 (aB B)) pc9 lcs9 st9 σ Y k9 := fun k9 hx9 cells9 slots9 pc9 lcs9 st9 h1 h2 => by rw [hx9]; exact x_out C htab hlk h1 h2
  generalize (vx_MQ below (QX cy D B (Sum.map (fun x => some (Value.int x)) id res) σ Y) (XCX cy D B (Sum.map (fun x => some (Value.int x)) id res) σ Y) args s 1 6 (aB B)) = Q at hret hthr hout ⊢
  obtain ⟨R, hR9⟩ : ∃ R : Room, R = ({ frames := 6, cells := 1, slots := 6, locals := 120 } : Room) := ⟨_, rfl⟩
  rw [← hR9] at hret hthr hout ⊢
  unfold fX5_waiting at h
  show X p l e R s m args below meth c 2 cy D B 0 0 Q 0 [(0, .ref (B + oHB)), (1, .int p1)] [] σ Y
  refine x_iload_n C dX5_waiting_0 rfl 1 rfl ?_
  have hJ1 : ∀ (r9 : (Int32 ⊕ Nat)), jX5_waiting_15 = some r9 → (∀ (x9 : Int32), r9 = .inl x9 → ∀ (cells9 slots9 pc9 : Nat) (lcs9 : List (Nat × Value)), decode cX5_waiting pc9 = .ok (.ireturn, 1) → narrow .int (.int x9) = .int x9 → cells9 ≤ 1 → slots9 ≤ 6 → X p l e R s m args below meth c 2 cy D B cells9 slots9 Q pc9 lcs9 [.int x9] σ Y) → (∀ (k9 : Nat), r9 = .inr k9 → ∀ (cells9 slots9 pc9 : Nat) (lcs9 : List (Nat × Value)), (ThrowS "HostelBeds" cX5_waiting pc9 k9 ∨ ThrowSW "HostelBeds" cX5_waiting pc9 k9 ∨ ThrowN "HostelBeds" cX5_waiting pc9 k9) → cells9 + 1 ≤ 1 → slots9 + 6 ≤ 6 → X p l e R s m args below meth c 2 cy D B cells9 slots9 Q pc9 lcs9 [] σ Y) → (∀ (k9 : Nat), r9 = .inr k9 → ∀ (cells9 slots9 pc9 : Nat) (lcs9 : List (Nat × Value)) (st9 : List Value), cells9 ≤ 1 → slots9 ≤ 6 → XO p l e R s m args below meth c 2 cy D B cells9 slots9 Q pc9 lcs9 st9 σ Y k9) → X p l e R s m args below meth c 2 cy D B 0 0 Q 15 [] [] σ Y := by
    intro res9 h hret hthr hout
    unfold jX5_waiting_15 at h
    cases h
    exact hthr _ rfl _ _ _ _ (Or.inl ⟨192, 194, 196, "no such place", dX5_waiting_15, dX5_waiting_18, dX5_waiting_19, dX5_waiting_21, dX5_waiting_24, lw_g_mk tw_411 rfl, lw_g_mk tw_24 rfl, (by decide +kernel), (by decide +kernel), (by decide +kernel), hat_3, hgood_3⟩) (by decide) (by decide)
  refine x_if_lt C (tgt := 15) dX5_waiting_1 (by decide) (fun hc2 => ?_) (fun hc2 => ?_)
  · rw [if_pos hc2] at h
    refine x_sub [] rfl ?_
    exact hJ1 _ h hret hthr hout
  · rw [if_neg hc2] at h
    refine x_iload_n C dX5_waiting_4 rfl 1 rfl ?_
    refine x_aload_n C dX5_waiting_5 rfl 0 rfl ?_
    refine x_get C (C1 := "HostelBeds") (T := TX5) (N := 12) (ci := 7) inXg5 _ (c_HB) rfl 2 (by decide) (lw_g_mk tw_287 rfl) rfl dX5_waiting_6 ?_
    obtain ⟨hg3, h⟩ := gd_some h
    refine x_get C (C1 := "HostelBeds$Hostel") (T := TX1) (N := 12) (ci := 3) inXg1 _ (c_Ho hg3) rfl 6 (by decide) (lw_g_mk tw_204 rfl) rfl dX5_waiting_9 ?_
    refine x_icmp_lt C (tgt := 25) dX5_waiting_12 (by decide) (fun hc4 => ?_) (fun hc4 => ?_)
    · rw [if_pos hc4] at h
      refine x_aload_n C dX5_waiting_25 rfl 0 rfl ?_
      refine x_get C (C1 := "HostelBeds") (T := TX5) (N := 12) (ci := 7) inXg5 _ (c_HB) rfl 2 (by decide) (lw_g_mk tw_287 rfl) rfl dX5_waiting_26 ?_
      refine x_get C (C1 := "HostelBeds$Hostel") (T := TX1) (N := 12) (ci := 3) inXg1 _ (c_Ho hg3) rfl 5 (by decide) (lw_g_mk tw_202 rfl) rfl dX5_waiting_29 ?_
      refine x_iload_n C dX5_waiting_32 rfl 1 rfl ?_
      obtain ⟨hg5, h⟩ := gd_some h
      refine x_iald C _ (c_Que hg3) hg5 dX5_waiting_33 ?_
      cases h
      exact hret _ rfl _ _ _ _ dX5_waiting_34 rfl (by decide) (by decide)
    · rw [if_neg hc4] at h
      refine x_sub [] rfl ?_
      exact hJ1 _ h hret hthr hout
def fX5_placed (p1 : Int32) (σ : Mem) : Option ((Int32 ⊕ Nat)) := ((fX5_checkBooking p1 σ).bind fun q1 => Sum.elim (fun x2 => (gd (inb p1 17) (some (.inl (rI σ 52 0 p1.toNatClampNeg))))) (fun e3 => (some (.inr e3))) q1)
set_option maxHeartbeats 4000000 in
set_option maxRecDepth 100000 in
theorem okX5_placed (l : Launch) (hlf : l.stackTraces = false) (cy : Nat → ClassId) (D : va_G) (B : Nat) (ek : EK) (p1 : Int32) (σ : Mem) (Y : va_W) (res : (Int32 ⊕ Nat)) (h : fX5_placed p1 σ = some res) : CTX l cy D B ek yX5_placed cX5_placed 2 (some .int) ({ frames := 7, cells := 1, slots := 6, locals := 141 } : Room) 1 6 [.ref (B + oHB), .int p1] σ Y (Sum.map (fun x => some (Value.int x)) id res) σ Y := by
  refine met_XX (own := "HostelBeds") (by decide) rfl (Nat.le_of_ble_eq_true rfl) ?_
  intro p e s m args below meth c C hrT hlk htab
  have hret : ∀ (x9 : Int32), res = .inl x9 → ∀ (cells9 slots9 pc9 : Nat) (lcs9 : List (Nat × Value)), decode cX5_placed pc9 = .ok (.ireturn, 1) → narrow .int (.int x9) = .int x9 → cells9 ≤ 1 → slots9 ≤ 6 → X p l e ({ frames := 7, cells := 1, slots := 6, locals := 141 } : Room) s m args below meth c 2 cy D B cells9 slots9 (vx_MQ below (QX cy D B (Sum.map (fun x => some (Value.int x)) id res) σ Y) (XCX cy D B (Sum.map (fun x => some (Value.int x)) id res) σ Y) args s 1 6 (aB B)) pc9 lcs9 [.int x9] σ Y := fun x9 hx9 cells9 slots9 pc9 lcs9 hd hn h1 h2 => by rw [hx9]; exact x_zretX C hrT hlk hn hd h1 h2
  have hout : ∀ (k9 : Nat), res = .inr k9 → ∀ (cells9 slots9 pc9 : Nat) (lcs9 : List (Nat × Value)) (st9 : List Value), cells9 ≤ 1 → slots9 ≤ 6 → XO p l e ({ frames := 7, cells := 1, slots := 6, locals := 141 } : Room) s m args below meth c 2 cy D B cells9 slots9 (vx_MQ below (QX cy D B (Sum.map (fun x => some (Value.int x)) id res) σ Y) (XCX cy D B (Sum.map (fun x => some (Value.int x)) id res) σ Y) args s 1 6 (aB B)) pc9 lcs9 st9 σ Y k9 := fun k9 hx9 cells9 slots9 pc9 lcs9 st9 h1 h2 => by rw [hx9]; exact x_out C htab hlk h1 h2
  have hthr : True := trivial
  generalize (vx_MQ below (QX cy D B (Sum.map (fun x => some (Value.int x)) id res) σ Y) (XCX cy D B (Sum.map (fun x => some (Value.int x)) id res) σ Y) args s 1 6 (aB B)) = Q at hret hthr hout ⊢
  obtain ⟨R, hR9⟩ : ∃ R : Room, R = ({ frames := 7, cells := 1, slots := 6, locals := 141 } : Room) := ⟨_, rfl⟩
  rw [← hR9] at hret hout ⊢
  unfold fX5_placed at h
  show X p l e R s m args below meth c 2 cy D B 0 0 Q 0 [(0, .ref (B + oHB)), (1, .int p1)] [] σ Y
  refine x_aload_n C dX5_placed_0 rfl 0 rfl ?_
  refine x_iload_n C dX5_placed_1 rfl 1 rfl ?_
  obtain ⟨q1, hk1, h⟩ := Option.bind_eq_some_iff.mp h
  refine x_callVX C (As := [.int p1]) (rest := []) (cells2 := 1) (slots2 := 6) (lw_g_mk tw_434 rfl) (lw_g_mk tsel_2 rfl) (c_HB) (C1 := "HostelBeds") (T := TX5) (N := 12) (ci := 7) rfl (okX5_checkBooking l hlf cy D B ek p1 σ Y _ hk1) rfl rfl (by rw [hR9]; decide) (lw_g_mk tw_435 rfl) (lw_g_mk tw_1 rfl) (by decide) rfl (lw_g_mk tw_432 rfl) rfl (Nat.le_of_ble_eq_true rfl) dX5_placed_2 (by rw [hR9]; decide) rfl rfl (fun v2 hv3 => ?_) (fun k4 hv5 => ?_)
  · rcases q1 with x2 | e3
    · rw [Sum.elim_inl] at h
      have hv3 : (Sum.inl (none) : Option Value ⊕ Nat) = .inl v2 := hv3
      cases hv3
      refine x_aload_n C dX5_placed_5 rfl 0 rfl ?_
      refine x_get C (C1 := "HostelBeds") (T := TX5) (N := 12) (ci := 7) inXg5 _ (c_HB) rfl 4 (by decide) (lw_g_mk tw_289 rfl) rfl dX5_placed_6 ?_
      refine x_get C (C1 := "HostelBeds$Plan") (T := TX3) (N := 8) (ci := 5) inXg3 _ (c_Pl (by decide)) rfl 2 (by decide) (lw_g_mk tw_257 rfl) rfl dX5_placed_9 ?_
      refine x_iload_n C dX5_placed_12 rfl 1 rfl ?_
      obtain ⟨hg7, h⟩ := gd_some h
      refine x_iald C _ (c_Out (by decide)) hg7 dX5_placed_13 ?_
      cases h
      exact hret _ rfl _ _ _ _ dX5_placed_14 rfl (by decide) (by decide)
    · cases hv3
  · rcases q1 with x2 | e3
    · cases hv5
    · rw [Sum.elim_inr] at h
      have hv5 : (Sum.inr e3 : Option Value ⊕ Nat) = .inr k4 := hv5
      cases hv5
      cases h
      exact hout _ rfl _ _ _ _ _ (by decide) (by decide)
def fX5_roomsOf (p1 : Int32) (σ : Mem) : Option ((Int32 ⊕ Nat)) := ((fX5_checkBooking p1 σ).bind fun q1 => Sum.elim (fun x2 => (gd (inb p1 17) (some (.inl (rI σ 53 0 p1.toNatClampNeg))))) (fun e3 => (some (.inr e3))) q1)
set_option maxHeartbeats 4000000 in
set_option maxRecDepth 100000 in
theorem okX5_roomsOf (l : Launch) (hlf : l.stackTraces = false) (cy : Nat → ClassId) (D : va_G) (B : Nat) (ek : EK) (p1 : Int32) (σ : Mem) (Y : va_W) (res : (Int32 ⊕ Nat)) (h : fX5_roomsOf p1 σ = some res) : CTX l cy D B ek yX5_roomsOf cX5_roomsOf 2 (some .int) ({ frames := 7, cells := 1, slots := 6, locals := 141 } : Room) 1 6 [.ref (B + oHB), .int p1] σ Y (Sum.map (fun x => some (Value.int x)) id res) σ Y := by
  refine met_XX (own := "HostelBeds") (by decide) rfl (Nat.le_of_ble_eq_true rfl) ?_
  intro p e s m args below meth c C hrT hlk htab
  have hret : ∀ (x9 : Int32), res = .inl x9 → ∀ (cells9 slots9 pc9 : Nat) (lcs9 : List (Nat × Value)), decode cX5_roomsOf pc9 = .ok (.ireturn, 1) → narrow .int (.int x9) = .int x9 → cells9 ≤ 1 → slots9 ≤ 6 → X p l e ({ frames := 7, cells := 1, slots := 6, locals := 141 } : Room) s m args below meth c 2 cy D B cells9 slots9 (vx_MQ below (QX cy D B (Sum.map (fun x => some (Value.int x)) id res) σ Y) (XCX cy D B (Sum.map (fun x => some (Value.int x)) id res) σ Y) args s 1 6 (aB B)) pc9 lcs9 [.int x9] σ Y := fun x9 hx9 cells9 slots9 pc9 lcs9 hd hn h1 h2 => by rw [hx9]; exact x_zretX C hrT hlk hn hd h1 h2
  have hout : ∀ (k9 : Nat), res = .inr k9 → ∀ (cells9 slots9 pc9 : Nat) (lcs9 : List (Nat × Value)) (st9 : List Value), cells9 ≤ 1 → slots9 ≤ 6 → XO p l e ({ frames := 7, cells := 1, slots := 6, locals := 141 } : Room) s m args below meth c 2 cy D B cells9 slots9 (vx_MQ below (QX cy D B (Sum.map (fun x => some (Value.int x)) id res) σ Y) (XCX cy D B (Sum.map (fun x => some (Value.int x)) id res) σ Y) args s 1 6 (aB B)) pc9 lcs9 st9 σ Y k9 := fun k9 hx9 cells9 slots9 pc9 lcs9 st9 h1 h2 => by rw [hx9]; exact x_out C htab hlk h1 h2
  have hthr : True := trivial
  generalize (vx_MQ below (QX cy D B (Sum.map (fun x => some (Value.int x)) id res) σ Y) (XCX cy D B (Sum.map (fun x => some (Value.int x)) id res) σ Y) args s 1 6 (aB B)) = Q at hret hthr hout ⊢
  obtain ⟨R, hR9⟩ : ∃ R : Room, R = ({ frames := 7, cells := 1, slots := 6, locals := 141 } : Room) := ⟨_, rfl⟩
  rw [← hR9] at hret hout ⊢
  unfold fX5_roomsOf at h
  show X p l e R s m args below meth c 2 cy D B 0 0 Q 0 [(0, .ref (B + oHB)), (1, .int p1)] [] σ Y
  refine x_aload_n C dX5_roomsOf_0 rfl 0 rfl ?_
  refine x_iload_n C dX5_roomsOf_1 rfl 1 rfl ?_
  obtain ⟨q1, hk1, h⟩ := Option.bind_eq_some_iff.mp h
  refine x_callVX C (As := [.int p1]) (rest := []) (cells2 := 1) (slots2 := 6) (lw_g_mk tw_434 rfl) (lw_g_mk tsel_2 rfl) (c_HB) (C1 := "HostelBeds") (T := TX5) (N := 12) (ci := 7) rfl (okX5_checkBooking l hlf cy D B ek p1 σ Y _ hk1) rfl rfl (by rw [hR9]; decide) (lw_g_mk tw_435 rfl) (lw_g_mk tw_1 rfl) (by decide) rfl (lw_g_mk tw_432 rfl) rfl (Nat.le_of_ble_eq_true rfl) dX5_roomsOf_2 (by rw [hR9]; decide) rfl rfl (fun v2 hv3 => ?_) (fun k4 hv5 => ?_)
  · rcases q1 with x2 | e3
    · rw [Sum.elim_inl] at h
      have hv3 : (Sum.inl (none) : Option Value ⊕ Nat) = .inl v2 := hv3
      cases hv3
      refine x_aload_n C dX5_roomsOf_5 rfl 0 rfl ?_
      refine x_get C (C1 := "HostelBeds") (T := TX5) (N := 12) (ci := 7) inXg5 _ (c_HB) rfl 4 (by decide) (lw_g_mk tw_289 rfl) rfl dX5_roomsOf_6 ?_
      refine x_get C (C1 := "HostelBeds$Plan") (T := TX3) (N := 8) (ci := 5) inXg3 _ (c_Pl (by decide)) rfl 3 (by decide) (lw_g_mk tw_259 rfl) rfl dX5_roomsOf_9 ?_
      refine x_iload_n C dX5_roomsOf_12 rfl 1 rfl ?_
      obtain ⟨hg7, h⟩ := gd_some h
      refine x_iald C _ (c_Rb (by decide)) hg7 dX5_roomsOf_13 ?_
      cases h
      exact hret _ rfl _ _ _ _ dX5_roomsOf_14 rfl (by decide) (by decide)
    · cases hv3
  · rcases q1 with x2 | e3
    · cases hv5
    · rw [Sum.elim_inr] at h
      have hv5 : (Sum.inr e3 : Option Value ⊕ Nat) = .inr k4 := hv5
      cases hv5
      cases h
      exact hout _ rfl _ _ _ _ _ (by decide) (by decide)
def jX5_bedOfPerson_25 : Option ((Int32 ⊕ Nat)) := (some (.inr 3))
def fX5_bedOfPerson (p1 : Int32) (p2 : Int32) (σ : Mem) : Option ((Int32 ⊕ Nat)) := ((fX5_checkBooking p1 σ).bind fun q1 => Sum.elim (fun x2 => (if p2 < 0 then (jX5_bedOfPerson_25) else (gd (rP σ 0 < 12) (gd (inb p1 17) (if p2 < (rI σ 44 (rP σ 0) p1.toNatClampNeg) then ((fX3_hasBeds 0 p1 σ).bind fun q4 => (if ¬ q4 = 0 then (gd (inb ((p1 * (12 : Int32)) + p2) 204) (some (.inl (rI σ 51 0 ((p1 * (12 : Int32)) + p2).toNatClampNeg)))) else (some (.inr 4)))) else (jX5_bedOfPerson_25)))))) (fun e3 => (some (.inr e3))) q1)
set_option maxHeartbeats 4000000 in
set_option maxRecDepth 100000 in
theorem okX5_bedOfPerson (l : Launch) (hlf : l.stackTraces = false) (cy : Nat → ClassId) (D : va_G) (B : Nat) (ek : EK) (p1 : Int32) (p2 : Int32) (σ : Mem) (Y : va_W) (res : (Int32 ⊕ Nat)) (h : fX5_bedOfPerson p1 p2 σ = some res) : CTX l cy D B ek yX5_bedOfPerson cX5_bedOfPerson 3 (some .int) ({ frames := 7, cells := 2, slots := 12, locals := 141 } : Room) 2 12 [.ref (B + oHB), .int p1, .int p2] σ Y (Sum.map (fun x => some (Value.int x)) id res) σ Y := by
  refine met_XX (own := "HostelBeds") (by decide) rfl (Nat.le_of_ble_eq_true rfl) ?_
  intro p e s m args below meth c C hrT hlk htab
  have hret : ∀ (x9 : Int32), res = .inl x9 → ∀ (cells9 slots9 pc9 : Nat) (lcs9 : List (Nat × Value)), decode cX5_bedOfPerson pc9 = .ok (.ireturn, 1) → narrow .int (.int x9) = .int x9 → cells9 ≤ 2 → slots9 ≤ 12 → X p l e ({ frames := 7, cells := 2, slots := 12, locals := 141 } : Room) s m args below meth c 3 cy D B cells9 slots9 (vx_MQ below (QX cy D B (Sum.map (fun x => some (Value.int x)) id res) σ Y) (XCX cy D B (Sum.map (fun x => some (Value.int x)) id res) σ Y) args s 2 12 (aB B)) pc9 lcs9 [.int x9] σ Y := fun x9 hx9 cells9 slots9 pc9 lcs9 hd hn h1 h2 => by rw [hx9]; exact x_zretX C hrT hlk hn hd h1 h2
  have hthr : ∀ (k9 : Nat), res = .inr k9 → ∀ (cells9 slots9 pc9 : Nat) (lcs9 : List (Nat × Value)), (ThrowS "HostelBeds" cX5_bedOfPerson pc9 k9 ∨ ThrowSW "HostelBeds" cX5_bedOfPerson pc9 k9 ∨ ThrowN "HostelBeds" cX5_bedOfPerson pc9 k9) → cells9 + 1 ≤ 2 → slots9 + 6 ≤ 12 → X p l e ({ frames := 7, cells := 2, slots := 12, locals := 141 } : Room) s m args below meth c 3 cy D B cells9 slots9 (vx_MQ below (QX cy D B (Sum.map (fun x => some (Value.int x)) id res) σ Y) (XCX cy D B (Sum.map (fun x => some (Value.int x)) id res) σ Y) args s 2 12 (aB B)) pc9 lcs9 [] σ Y := fun k9 hx9 cells9 slots9 pc9 lcs9 ht h1 h2 => by
    rw [hx9]
    rcases ht with ht | ht | ht
    · exact x_throwS C hlf ht htab (Nat.le_of_ble_eq_true rfl) (Nat.le_of_ble_eq_true rfl) h1 h2 hlk h1 h2
    · exact x_throwSW C hlf ht htab (Nat.le_of_ble_eq_true rfl) (Nat.le_of_ble_eq_true rfl) h1 h2 hlk h1 h2
    · exact x_throwN C hlf ht htab (Nat.le_of_ble_eq_true rfl) (Nat.le_of_ble_eq_true rfl) h1 h2 hlk h1 h2
  have hout : ∀ (k9 : Nat), res = .inr k9 → ∀ (cells9 slots9 pc9 : Nat) (lcs9 : List (Nat × Value)) (st9 : List Value), cells9 ≤ 2 → slots9 ≤ 12 → XO p l e ({ frames := 7, cells := 2, slots := 12, locals := 141 } : Room) s m args below meth c 3 cy D B cells9 slots9 (vx_MQ below (QX cy D B (Sum.map (fun x => some (Value.int x)) id res) σ Y) (XCX cy D B (Sum.map (fun x => some (Value.int x)) id res) σ Y) args s 2 12 (aB B)) pc9 lcs9 st9 σ Y k9 := fun k9 hx9 cells9 slots9 pc9 lcs9 st9 h1 h2 => by rw [hx9]; exact x_out C htab hlk h1 h2
  generalize (vx_MQ below (QX cy D B (Sum.map (fun x => some (Value.int x)) id res) σ Y) (XCX cy D B (Sum.map (fun x => some (Value.int x)) id res) σ Y) args s 2 12 (aB B)) = Q at hret hthr hout ⊢
  obtain ⟨R, hR9⟩ : ∃ R : Room, R = ({ frames := 7, cells := 2, slots := 12, locals := 141 } : Room) := ⟨_, rfl⟩
  rw [← hR9] at hret hthr hout ⊢
  unfold fX5_bedOfPerson at h
  show X p l e R s m args below meth c 3 cy D B 0 0 Q 0 [(0, .ref (B + oHB)), (1, .int p1), (2, .int p2)] [] σ Y
  refine x_aload_n C dX5_bedOfPerson_0 rfl 0 rfl ?_
  refine x_iload_n C dX5_bedOfPerson_1 rfl 1 rfl ?_
  obtain ⟨q1, hk1, h⟩ := Option.bind_eq_some_iff.mp h
  refine x_callVX C (As := [.int p1]) (rest := []) (cells2 := 1) (slots2 := 6) (lw_g_mk tw_434 rfl) (lw_g_mk tsel_2 rfl) (c_HB) (C1 := "HostelBeds") (T := TX5) (N := 12) (ci := 7) rfl (okX5_checkBooking l hlf cy D B ek p1 σ Y _ hk1) rfl rfl (by rw [hR9]; decide) (lw_g_mk tw_435 rfl) (lw_g_mk tw_1 rfl) (by decide) rfl (lw_g_mk tw_432 rfl) rfl (Nat.le_of_ble_eq_true rfl) dX5_bedOfPerson_2 (by rw [hR9]; decide) rfl rfl (fun v2 hv3 => ?_) (fun k4 hv5 => ?_)
  · rcases q1 with x2 | e3
    · rw [Sum.elim_inl] at h
      have hv3 : (Sum.inl (none) : Option Value ⊕ Nat) = .inl v2 := hv3
      cases hv3
      refine x_iload_n C dX5_bedOfPerson_5 rfl 2 rfl ?_
      have hJ7 : ∀ (r9 : (Int32 ⊕ Nat)), jX5_bedOfPerson_25 = some r9 → (∀ (x9 : Int32), r9 = .inl x9 → ∀ (cells9 slots9 pc9 : Nat) (lcs9 : List (Nat × Value)), decode cX5_bedOfPerson pc9 = .ok (.ireturn, 1) → narrow .int (.int x9) = .int x9 → cells9 ≤ 2 → slots9 ≤ 12 → X p l e R s m args below meth c 3 cy D B cells9 slots9 Q pc9 lcs9 [.int x9] σ Y) → (∀ (k9 : Nat), r9 = .inr k9 → ∀ (cells9 slots9 pc9 : Nat) (lcs9 : List (Nat × Value)), (ThrowS "HostelBeds" cX5_bedOfPerson pc9 k9 ∨ ThrowSW "HostelBeds" cX5_bedOfPerson pc9 k9 ∨ ThrowN "HostelBeds" cX5_bedOfPerson pc9 k9) → cells9 + 1 ≤ 2 → slots9 + 6 ≤ 12 → X p l e R s m args below meth c 3 cy D B cells9 slots9 Q pc9 lcs9 [] σ Y) → (∀ (k9 : Nat), r9 = .inr k9 → ∀ (cells9 slots9 pc9 : Nat) (lcs9 : List (Nat × Value)) (st9 : List Value), cells9 ≤ 2 → slots9 ≤ 12 → XO p l e R s m args below meth c 3 cy D B cells9 slots9 Q pc9 lcs9 st9 σ Y k9) → X p l e R s m args below meth c 3 cy D B 1 6 Q 25 [] [] σ Y := by
        intro res9 h hret hthr hout
        unfold jX5_bedOfPerson_25 at h
        cases h
        exact hthr _ rfl _ _ _ _ (Or.inl ⟨192, 214, 196, "no such person", dX5_bedOfPerson_25, dX5_bedOfPerson_28, dX5_bedOfPerson_29, dX5_bedOfPerson_31, dX5_bedOfPerson_34, lw_g_mk tw_411 rfl, lw_g_mk tw_24 rfl, (by decide +kernel), (by decide +kernel), (by decide +kernel), hat_3, hgood_3⟩) (by decide) (by decide)
      refine x_if_lt C (tgt := 25) dX5_bedOfPerson_6 (by decide) (fun hc8 => ?_) (fun hc8 => ?_)
      · rw [if_pos hc8] at h
        refine x_sub [] rfl ?_
        exact hJ7 _ h hret hthr hout
      · rw [if_neg hc8] at h
        refine x_iload_n C dX5_bedOfPerson_9 rfl 2 rfl ?_
        refine x_aload_n C dX5_bedOfPerson_10 rfl 0 rfl ?_
        refine x_get C (C1 := "HostelBeds") (T := TX5) (N := 12) (ci := 7) inXg5 _ (c_HB) rfl 2 (by decide) (lw_g_mk tw_287 rfl) rfl dX5_bedOfPerson_11 ?_
        obtain ⟨hg9, h⟩ := gd_some h
        refine x_get C (C1 := "HostelBeds$Hostel") (T := TX1) (N := 12) (ci := 3) inXg1 _ (c_Ho hg9) rfl 3 (by decide) (lw_g_mk tw_195 rfl) rfl dX5_bedOfPerson_14 ?_
        refine x_iload_n C dX5_bedOfPerson_17 rfl 1 rfl ?_
        obtain ⟨hg10, h⟩ := gd_some h
        refine x_aldq C _ 6 (C1 := "HostelBeds$Booking") (c_Bks hg9) rfl hg10 rfl dX5_bedOfPerson_18 ?_
        refine x_get C (C1 := "HostelBeds$Booking") (T := TX0) (N := 11) (ci := 2) inXg0 _ (c_Bk hg9 (inb_lt hg10)) rfl 5 (by decide) (lw_g_mk tw_133 rfl) rfl dX5_bedOfPerson_19 ?_
        refine x_icmp_lt C (tgt := 35) dX5_bedOfPerson_22 (by decide) (fun hc11 => ?_) (fun hc11 => ?_)
        · rw [if_pos hc11] at h
          refine x_aload_n C dX5_bedOfPerson_35 rfl 0 rfl ?_
          refine x_get C (C1 := "HostelBeds") (T := TX5) (N := 12) (ci := 7) inXg5 _ (c_HB) rfl 4 (by decide) (lw_g_mk tw_289 rfl) rfl dX5_bedOfPerson_36 ?_
          refine x_iload_n C dX5_bedOfPerson_39 rfl 1 rfl ?_
          obtain ⟨q4, hk12, h⟩ := Option.bind_eq_some_iff.mp h
          refine x_callV C (As := [.int p1]) (rest := []) (lw_g_mk tw_1036 rfl) (lw_g_mk tw_1037 rfl) (c_Pl (by decide)) (C1 := "HostelBeds$Plan") (T := TX3) (N := 8) (ci := 5) rfl (okX3_hasBeds l cy D B ek 0 p1 σ Y (by decide) _ hk12) rfl rfl (by rw [hR9]; decide) (lw_g_mk tw_1038 rfl) (lw_g_mk tw_6 rfl) (by decide) rfl (lw_g_mk tw_1035 rfl) rfl (Nat.le_of_ble_eq_true rfl) dX5_bedOfPerson_40 (by rw [hR9]; decide) ?_
          refine x_if_ne C (tgt := 56) dX5_bedOfPerson_43 (by decide) (fun hc13 => ?_) (fun hc13 => ?_)
          · rw [if_pos hc13] at h
            refine x_aload_n C dX5_bedOfPerson_56 rfl 0 rfl ?_
            refine x_get C (C1 := "HostelBeds") (T := TX5) (N := 12) (ci := 7) inXg5 _ (c_HB) rfl 4 (by decide) (lw_g_mk tw_289 rfl) rfl dX5_bedOfPerson_57 ?_
            refine x_get C (C1 := "HostelBeds$Plan") (T := TX3) (N := 8) (ci := 5) inXg3 _ (c_Pl (by decide)) rfl 1 (by decide) (lw_g_mk tw_255 rfl) rfl dX5_bedOfPerson_60 ?_
            refine x_iload_n C dX5_bedOfPerson_63 rfl 1 rfl ?_
            refine x_bipush C (v := 12) dX5_bedOfPerson_64 (by decide) ?_
            refine x_imul C dX5_bedOfPerson_66 ?_
            refine x_iload_n C dX5_bedOfPerson_67 rfl 2 rfl ?_
            refine x_iadd C dX5_bedOfPerson_68 ?_
            obtain ⟨hg14, h⟩ := gd_some h
            refine x_iald C _ (c_Bop (by decide)) hg14 dX5_bedOfPerson_69 ?_
            cases h
            exact hret _ rfl _ _ _ _ dX5_bedOfPerson_70 rfl (by decide) (by decide)
          · rw [if_neg hc13] at h
            cases h
            exact hthr _ rfl _ _ _ _ (Or.inr (Or.inr ⟨181, 220, 185, "the booking has no beds", dX5_bedOfPerson_46, dX5_bedOfPerson_49, dX5_bedOfPerson_50, dX5_bedOfPerson_52, dX5_bedOfPerson_55, lw_g_mk tw_1039 rfl, lw_g_mk tw_25 rfl, (by decide +kernel), rfl⟩)) (by decide) (by decide)
        · rw [if_neg hc11] at h
          refine x_sub [] rfl ?_
          exact hJ7 _ h hret hthr hout
    · cases hv3
  · rcases q1 with x2 | e3
    · cases hv5
    · rw [Sum.elim_inr] at h
      have hv5 : (Sum.inr e3 : Option Value ⊕ Nat) = .inr k4 := hv5
      cases hv5
      cases h
      exact hout _ rfl _ _ _ _ _ (by decide) (by decide)
def fX5_roomOf (p1 : Int32) (p2 : Int32) (σ : Mem) : Option ((Int32 ⊕ Nat)) := ((fX5_bedOfPerson p1 p2 σ).bind fun q1 => Sum.elim (fun x2 => (some (.inl (x2 / (10 : Int32))))) (fun e3 => (some (.inr e3))) q1)
set_option maxHeartbeats 4000000 in
set_option maxRecDepth 100000 in
theorem okX5_roomOf (l : Launch) (hlf : l.stackTraces = false) (cy : Nat → ClassId) (D : va_G) (B : Nat) (ek : EK) (p1 : Int32) (p2 : Int32) (σ : Mem) (Y : va_W) (res : (Int32 ⊕ Nat)) (h : fX5_roomOf p1 p2 σ = some res) : CTX l cy D B ek yX5_roomOf cX5_roomOf 3 (some .int) ({ frames := 8, cells := 2, slots := 12, locals := 163 } : Room) 2 12 [.ref (B + oHB), .int p1, .int p2] σ Y (Sum.map (fun x => some (Value.int x)) id res) σ Y := by
  refine met_XX (own := "HostelBeds") (by decide) rfl (Nat.le_of_ble_eq_true rfl) ?_
  intro p e s m args below meth c C hrT hlk htab
  have hret : ∀ (x9 : Int32), res = .inl x9 → ∀ (cells9 slots9 pc9 : Nat) (lcs9 : List (Nat × Value)), decode cX5_roomOf pc9 = .ok (.ireturn, 1) → narrow .int (.int x9) = .int x9 → cells9 ≤ 2 → slots9 ≤ 12 → X p l e ({ frames := 8, cells := 2, slots := 12, locals := 163 } : Room) s m args below meth c 3 cy D B cells9 slots9 (vx_MQ below (QX cy D B (Sum.map (fun x => some (Value.int x)) id res) σ Y) (XCX cy D B (Sum.map (fun x => some (Value.int x)) id res) σ Y) args s 2 12 (aB B)) pc9 lcs9 [.int x9] σ Y := fun x9 hx9 cells9 slots9 pc9 lcs9 hd hn h1 h2 => by rw [hx9]; exact x_zretX C hrT hlk hn hd h1 h2
  have hout : ∀ (k9 : Nat), res = .inr k9 → ∀ (cells9 slots9 pc9 : Nat) (lcs9 : List (Nat × Value)) (st9 : List Value), cells9 ≤ 2 → slots9 ≤ 12 → XO p l e ({ frames := 8, cells := 2, slots := 12, locals := 163 } : Room) s m args below meth c 3 cy D B cells9 slots9 (vx_MQ below (QX cy D B (Sum.map (fun x => some (Value.int x)) id res) σ Y) (XCX cy D B (Sum.map (fun x => some (Value.int x)) id res) σ Y) args s 2 12 (aB B)) pc9 lcs9 st9 σ Y k9 := fun k9 hx9 cells9 slots9 pc9 lcs9 st9 h1 h2 => by rw [hx9]; exact x_out C htab hlk h1 h2
  have hthr : True := trivial
  generalize (vx_MQ below (QX cy D B (Sum.map (fun x => some (Value.int x)) id res) σ Y) (XCX cy D B (Sum.map (fun x => some (Value.int x)) id res) σ Y) args s 2 12 (aB B)) = Q at hret hthr hout ⊢
  obtain ⟨R, hR9⟩ : ∃ R : Room, R = ({ frames := 8, cells := 2, slots := 12, locals := 163 } : Room) := ⟨_, rfl⟩
  rw [← hR9] at hret hout ⊢
  unfold fX5_roomOf at h
  show X p l e R s m args below meth c 3 cy D B 0 0 Q 0 [(0, .ref (B + oHB)), (1, .int p1), (2, .int p2)] [] σ Y
  refine x_aload_n C dX5_roomOf_0 rfl 0 rfl ?_
  refine x_iload_n C dX5_roomOf_1 rfl 1 rfl ?_
  refine x_iload_n C dX5_roomOf_2 rfl 2 rfl ?_
  obtain ⟨q1, hk1, h⟩ := Option.bind_eq_some_iff.mp h
  refine x_callVX C (As := [.int p1, .int p2]) (rest := []) (cells2 := 2) (slots2 := 12) (lw_g_mk tw_1032 rfl) (lw_g_mk tsel_4 rfl) (c_HB) (C1 := "HostelBeds") (T := TX5) (N := 12) (ci := 7) rfl (okX5_bedOfPerson l hlf cy D B ek p1 p2 σ Y _ hk1) rfl rfl (by rw [hR9]; decide) (lw_g_mk tw_1033 rfl) (lw_g_mk tw_1 rfl) (by decide) rfl (lw_g_mk tw_1030 rfl) rfl (Nat.le_of_ble_eq_true rfl) dX5_roomOf_3 (by rw [hR9]; decide) rfl rfl (fun v2 hv3 => ?_) (fun k4 hv5 => ?_)
  · rcases q1 with x2 | e3
    · rw [Sum.elim_inl] at h
      have hv3 : (Sum.inl (some (Value.int x2)) : Option Value ⊕ Nat) = .inl v2 := hv3
      cases hv3
      refine x_bipush C (v := 10) dX5_roomOf_6 (by decide) ?_
      refine x_idiv C dX5_roomOf_8 (by decide) ?_
      cases h
      exact hret _ rfl _ _ _ _ dX5_roomOf_9 rfl (by decide) (by decide)
    · cases hv3
  · rcases q1 with x2 | e3
    · cases hv5
    · rw [Sum.elim_inr] at h
      have hv5 : (Sum.inr e3 : Option Value ⊕ Nat) = .inr k4 := hv5
      cases hv5
      cases h
      exact hout _ rfl _ _ _ _ _ (by decide) (by decide)
def fX5_bedOf (p1 : Int32) (p2 : Int32) (σ : Mem) : Option ((Int32 ⊕ Nat)) := ((fX5_bedOfPerson p1 p2 σ).bind fun q1 => Sum.elim (fun x2 => (some (.inl (x2 - x2 / (10 : Int32) * (10 : Int32))))) (fun e3 => (some (.inr e3))) q1)
set_option maxHeartbeats 4000000 in
set_option maxRecDepth 100000 in
theorem okX5_bedOf (l : Launch) (hlf : l.stackTraces = false) (cy : Nat → ClassId) (D : va_G) (B : Nat) (ek : EK) (p1 : Int32) (p2 : Int32) (σ : Mem) (Y : va_W) (res : (Int32 ⊕ Nat)) (h : fX5_bedOf p1 p2 σ = some res) : CTX l cy D B ek yX5_bedOf cX5_bedOf 3 (some .int) ({ frames := 8, cells := 2, slots := 12, locals := 163 } : Room) 2 12 [.ref (B + oHB), .int p1, .int p2] σ Y (Sum.map (fun x => some (Value.int x)) id res) σ Y := by
  refine met_XX (own := "HostelBeds") (by decide) rfl (Nat.le_of_ble_eq_true rfl) ?_
  intro p e s m args below meth c C hrT hlk htab
  have hret : ∀ (x9 : Int32), res = .inl x9 → ∀ (cells9 slots9 pc9 : Nat) (lcs9 : List (Nat × Value)), decode cX5_bedOf pc9 = .ok (.ireturn, 1) → narrow .int (.int x9) = .int x9 → cells9 ≤ 2 → slots9 ≤ 12 → X p l e ({ frames := 8, cells := 2, slots := 12, locals := 163 } : Room) s m args below meth c 3 cy D B cells9 slots9 (vx_MQ below (QX cy D B (Sum.map (fun x => some (Value.int x)) id res) σ Y) (XCX cy D B (Sum.map (fun x => some (Value.int x)) id res) σ Y) args s 2 12 (aB B)) pc9 lcs9 [.int x9] σ Y := fun x9 hx9 cells9 slots9 pc9 lcs9 hd hn h1 h2 => by rw [hx9]; exact x_zretX C hrT hlk hn hd h1 h2
  have hout : ∀ (k9 : Nat), res = .inr k9 → ∀ (cells9 slots9 pc9 : Nat) (lcs9 : List (Nat × Value)) (st9 : List Value), cells9 ≤ 2 → slots9 ≤ 12 → XO p l e ({ frames := 8, cells := 2, slots := 12, locals := 163 } : Room) s m args below meth c 3 cy D B cells9 slots9 (vx_MQ below (QX cy D B (Sum.map (fun x => some (Value.int x)) id res) σ Y) (XCX cy D B (Sum.map (fun x => some (Value.int x)) id res) σ Y) args s 2 12 (aB B)) pc9 lcs9 st9 σ Y k9 := fun k9 hx9 cells9 slots9 pc9 lcs9 st9 h1 h2 => by rw [hx9]; exact x_out C htab hlk h1 h2
  have hthr : True := trivial
  generalize (vx_MQ below (QX cy D B (Sum.map (fun x => some (Value.int x)) id res) σ Y) (XCX cy D B (Sum.map (fun x => some (Value.int x)) id res) σ Y) args s 2 12 (aB B)) = Q at hret hthr hout ⊢
  obtain ⟨R, hR9⟩ : ∃ R : Room, R = ({ frames := 8, cells := 2, slots := 12, locals := 163 } : Room) := ⟨_, rfl⟩
  rw [← hR9] at hret hout ⊢
  unfold fX5_bedOf at h
  show X p l e R s m args below meth c 3 cy D B 0 0 Q 0 [(0, .ref (B + oHB)), (1, .int p1), (2, .int p2)] [] σ Y
  refine x_aload_n C dX5_bedOf_0 rfl 0 rfl ?_
  refine x_iload_n C dX5_bedOf_1 rfl 1 rfl ?_
  refine x_iload_n C dX5_bedOf_2 rfl 2 rfl ?_
  obtain ⟨q1, hk1, h⟩ := Option.bind_eq_some_iff.mp h
  refine x_callVX C (As := [.int p1, .int p2]) (rest := []) (cells2 := 2) (slots2 := 12) (lw_g_mk tw_1032 rfl) (lw_g_mk tsel_4 rfl) (c_HB) (C1 := "HostelBeds") (T := TX5) (N := 12) (ci := 7) rfl (okX5_bedOfPerson l hlf cy D B ek p1 p2 σ Y _ hk1) rfl rfl (by rw [hR9]; decide) (lw_g_mk tw_1033 rfl) (lw_g_mk tw_1 rfl) (by decide) rfl (lw_g_mk tw_1030 rfl) rfl (Nat.le_of_ble_eq_true rfl) dX5_bedOf_3 (by rw [hR9]; decide) rfl rfl (fun v2 hv3 => ?_) (fun k4 hv5 => ?_)
  · rcases q1 with x2 | e3
    · rw [Sum.elim_inl] at h
      have hv3 : (Sum.inl (some (Value.int x2)) : Option Value ⊕ Nat) = .inl v2 := hv3
      cases hv3
      refine x_bipush C (v := 10) dX5_bedOf_6 (by decide) ?_
      refine x_irem C dX5_bedOf_8 (by decide) ?_
      cases h
      exact hret _ rfl _ _ _ _ dX5_bedOf_9 rfl (by decide) (by decide)
    · cases hv3
  · rcases q1 with x2 | e3
    · cases hv5
    · rw [Sum.elim_inr] at h
      have hv5 : (Sum.inr e3 : Option Value ⊕ Nat) = .inr k4 := hv5
      cases hv5
      cases h
      exact hout _ rfl _ _ _ _ _ (by decide) (by decide)
def jX5_checkBed_25 : Option ((Unit ⊕ Nat)) := (some (.inr 3))
def fX5_checkBed (p1 : Int32) (p2 : Int32) (σ : Mem) : Option ((Unit ⊕ Nat)) := ((fX5_checkRoom p1 σ).bind fun q1 => Sum.elim (fun x2 => (if p2 < 0 then (jX5_checkBed_25) else (gd (rP σ 0 < 12) (gd (inb p1 8) (if p2 < (rI σ 31 (rP σ 0) p1.toNatClampNeg) then (some (.inl ())) else (jX5_checkBed_25)))))) (fun e3 => (some (.inr e3))) q1)
set_option maxHeartbeats 4000000 in
set_option maxRecDepth 100000 in
theorem okX5_checkBed (l : Launch) (hlf : l.stackTraces = false) (cy : Nat → ClassId) (D : va_G) (B : Nat) (ek : EK) (p1 : Int32) (p2 : Int32) (σ : Mem) (Y : va_W) (res : (Unit ⊕ Nat)) (h : fX5_checkBed p1 p2 σ = some res) : CTX l cy D B ek yX5_checkBed cX5_checkBed 3 none ({ frames := 7, cells := 2, slots := 12, locals := 141 } : Room) 2 12 [.ref (B + oHB), .int p1, .int p2] σ Y (Sum.map (fun _ => (none : Option Value)) id res) σ Y := by
  refine met_XX (own := "HostelBeds") (by decide) rfl (Nat.le_of_ble_eq_true rfl) ?_
  intro p e s m args below meth c C hrT hlk htab
  have hret : ∀ (x9 : Unit), res = .inl x9 → ∀ (cells9 slots9 pc9 : Nat) (lcs9 : List (Nat × Value)), decode cX5_checkBed pc9 = .ok (.return_, 1) → cells9 ≤ 2 → slots9 ≤ 12 → X p l e ({ frames := 7, cells := 2, slots := 12, locals := 141 } : Room) s m args below meth c 3 cy D B cells9 slots9 (vx_MQ below (QX cy D B (Sum.map (fun _ => (none : Option Value)) id res) σ Y) (XCX cy D B (Sum.map (fun _ => (none : Option Value)) id res) σ Y) args s 2 12 (aB B)) pc9 lcs9 [] σ Y := fun x9 hx9 cells9 slots9 pc9 lcs9 hd h1 h2 => by rw [hx9]; exact x_vretX C hrT hlk hd h1 h2
  have hthr : ∀ (k9 : Nat), res = .inr k9 → ∀ (cells9 slots9 pc9 : Nat) (lcs9 : List (Nat × Value)), (ThrowS "HostelBeds" cX5_checkBed pc9 k9 ∨ ThrowSW "HostelBeds" cX5_checkBed pc9 k9 ∨ ThrowN "HostelBeds" cX5_checkBed pc9 k9) → cells9 + 1 ≤ 2 → slots9 + 6 ≤ 12 → X p l e ({ frames := 7, cells := 2, slots := 12, locals := 141 } : Room) s m args below meth c 3 cy D B cells9 slots9 (vx_MQ below (QX cy D B (Sum.map (fun _ => (none : Option Value)) id res) σ Y) (XCX cy D B (Sum.map (fun _ => (none : Option Value)) id res) σ Y) args s 2 12 (aB B)) pc9 lcs9 [] σ Y := fun k9 hx9 cells9 slots9 pc9 lcs9 ht h1 h2 => by
    rw [hx9]
    rcases ht with ht | ht | ht
    · exact x_throwS C hlf ht htab (Nat.le_of_ble_eq_true rfl) (Nat.le_of_ble_eq_true rfl) h1 h2 hlk h1 h2
    · exact x_throwSW C hlf ht htab (Nat.le_of_ble_eq_true rfl) (Nat.le_of_ble_eq_true rfl) h1 h2 hlk h1 h2
    · exact x_throwN C hlf ht htab (Nat.le_of_ble_eq_true rfl) (Nat.le_of_ble_eq_true rfl) h1 h2 hlk h1 h2
  have hout : ∀ (k9 : Nat), res = .inr k9 → ∀ (cells9 slots9 pc9 : Nat) (lcs9 : List (Nat × Value)) (st9 : List Value), cells9 ≤ 2 → slots9 ≤ 12 → XO p l e ({ frames := 7, cells := 2, slots := 12, locals := 141 } : Room) s m args below meth c 3 cy D B cells9 slots9 (vx_MQ below (QX cy D B (Sum.map (fun _ => (none : Option Value)) id res) σ Y) (XCX cy D B (Sum.map (fun _ => (none : Option Value)) id res) σ Y) args s 2 12 (aB B)) pc9 lcs9 st9 σ Y k9 := fun k9 hx9 cells9 slots9 pc9 lcs9 st9 h1 h2 => by rw [hx9]; exact x_out C htab hlk h1 h2
  generalize (vx_MQ below (QX cy D B (Sum.map (fun _ => (none : Option Value)) id res) σ Y) (XCX cy D B (Sum.map (fun _ => (none : Option Value)) id res) σ Y) args s 2 12 (aB B)) = Q at hret hthr hout ⊢
  obtain ⟨R, hR9⟩ : ∃ R : Room, R = ({ frames := 7, cells := 2, slots := 12, locals := 141 } : Room) := ⟨_, rfl⟩
  rw [← hR9] at hret hthr hout ⊢
  unfold fX5_checkBed at h
  show X p l e R s m args below meth c 3 cy D B 0 0 Q 0 [(0, .ref (B + oHB)), (1, .int p1), (2, .int p2)] [] σ Y
  refine x_aload_n C dX5_checkBed_0 rfl 0 rfl ?_
  refine x_iload_n C dX5_checkBed_1 rfl 1 rfl ?_
  obtain ⟨q1, hk1, h⟩ := Option.bind_eq_some_iff.mp h
  refine x_callVX C (As := [.int p1]) (rest := []) (cells2 := 1) (slots2 := 6) (lw_g_mk tw_409 rfl) (lw_g_mk tsel_1 rfl) (c_HB) (C1 := "HostelBeds") (T := TX5) (N := 12) (ci := 7) rfl (okX5_checkRoom l hlf cy D B ek p1 σ Y _ hk1) rfl rfl (by rw [hR9]; decide) (lw_g_mk tw_410 rfl) (lw_g_mk tw_1 rfl) (by decide) rfl (lw_g_mk tw_407 rfl) rfl (Nat.le_of_ble_eq_true rfl) dX5_checkBed_2 (by rw [hR9]; decide) rfl rfl (fun v2 hv3 => ?_) (fun k4 hv5 => ?_)
  · rcases q1 with x2 | e3
    · rw [Sum.elim_inl] at h
      have hv3 : (Sum.inl (none) : Option Value ⊕ Nat) = .inl v2 := hv3
      cases hv3
      refine x_iload_n C dX5_checkBed_5 rfl 2 rfl ?_
      have hJ7 : ∀ (r9 : (Unit ⊕ Nat)), jX5_checkBed_25 = some r9 → (∀ (x9 : Unit), r9 = .inl x9 → ∀ (cells9 slots9 pc9 : Nat) (lcs9 : List (Nat × Value)), decode cX5_checkBed pc9 = .ok (.return_, 1) → cells9 ≤ 2 → slots9 ≤ 12 → X p l e R s m args below meth c 3 cy D B cells9 slots9 Q pc9 lcs9 [] σ Y) → (∀ (k9 : Nat), r9 = .inr k9 → ∀ (cells9 slots9 pc9 : Nat) (lcs9 : List (Nat × Value)), (ThrowS "HostelBeds" cX5_checkBed pc9 k9 ∨ ThrowSW "HostelBeds" cX5_checkBed pc9 k9 ∨ ThrowN "HostelBeds" cX5_checkBed pc9 k9) → cells9 + 1 ≤ 2 → slots9 + 6 ≤ 12 → X p l e R s m args below meth c 3 cy D B cells9 slots9 Q pc9 lcs9 [] σ Y) → (∀ (k9 : Nat), r9 = .inr k9 → ∀ (cells9 slots9 pc9 : Nat) (lcs9 : List (Nat × Value)) (st9 : List Value), cells9 ≤ 2 → slots9 ≤ 12 → XO p l e R s m args below meth c 3 cy D B cells9 slots9 Q pc9 lcs9 st9 σ Y k9) → X p l e R s m args below meth c 3 cy D B 1 6 Q 25 [] [] σ Y := by
        intro res9 h hret hthr hout
        unfold jX5_checkBed_25 at h
        cases h
        exact hthr _ rfl _ _ _ _ (Or.inr (Or.inl ⟨192, 352, 196, "no such bed", dX5_checkBed_25, dX5_checkBed_28, dX5_checkBed_29, dX5_checkBed_32, dX5_checkBed_35, lw_g_mk tw_411 rfl, lw_g_mk tw_24 rfl, (by decide +kernel), (by decide +kernel), (by decide +kernel), hat_3, hgood_3⟩)) (by decide) (by decide)
      refine x_if_lt C (tgt := 25) dX5_checkBed_6 (by decide) (fun hc8 => ?_) (fun hc8 => ?_)
      · rw [if_pos hc8] at h
        refine x_sub [] rfl ?_
        exact hJ7 _ h hret hthr hout
      · rw [if_neg hc8] at h
        refine x_iload_n C dX5_checkBed_9 rfl 2 rfl ?_
        refine x_aload_n C dX5_checkBed_10 rfl 0 rfl ?_
        refine x_get C (C1 := "HostelBeds") (T := TX5) (N := 12) (ci := 7) inXg5 _ (c_HB) rfl 2 (by decide) (lw_g_mk tw_287 rfl) rfl dX5_checkBed_11 ?_
        obtain ⟨hg9, h⟩ := gd_some h
        refine x_get C (C1 := "HostelBeds$Hostel") (T := TX1) (N := 12) (ci := 3) inXg1 _ (c_Ho hg9) rfl 0 (by decide) (lw_g_mk tw_183 rfl) rfl dX5_checkBed_14 ?_
        refine x_iload_n C dX5_checkBed_17 rfl 1 rfl ?_
        obtain ⟨hg10, h⟩ := gd_some h
        refine x_aldq C _ 5 (C1 := "HostelBeds$Room") (c_Rms hg9) rfl hg10 rfl dX5_checkBed_18 ?_
        refine x_get C (C1 := "HostelBeds$Room") (T := TX4) (N := 5) (ci := 6) inXg4 _ (c_Rm hg9 (inb_lt hg10)) rfl 2 (by decide) (lw_g_mk tw_85 rfl) rfl dX5_checkBed_19 ?_
        refine x_icmp_lt C (tgt := 36) dX5_checkBed_22 (by decide) (fun hc11 => ?_) (fun hc11 => ?_)
        · rw [if_pos hc11] at h
          cases h
          exact hret _ rfl _ _ _ _ dX5_checkBed_36 (by decide) (by decide)
        · rw [if_neg hc11] at h
          refine x_sub [] rfl ?_
          exact hJ7 _ h hret hthr hout
    · cases hv3
  · rcases q1 with x2 | e3
    · cases hv5
    · rw [Sum.elim_inr] at h
      have hv5 : (Sum.inr e3 : Option Value ⊕ Nat) = .inr k4 := hv5
      cases hv5
      cases h
      exact hout _ rfl _ _ _ _ _ (by decide) (by decide)
def jX5_checkNight_10 : Option ((Unit ⊕ Nat)) := (some (.inr 3))
def fX5_checkNight (p1 : Int32) : Option ((Unit ⊕ Nat)) := (if p1 < 0 then (jX5_checkNight_10) else (if p1 < (30 : Int32) then (some (.inl ())) else (jX5_checkNight_10)))
set_option maxHeartbeats 4000000 in
set_option maxRecDepth 100000 in
theorem okX5_checkNight (l : Launch) (hlf : l.stackTraces = false) (cy : Nat → ClassId) (D : va_G) (B : Nat) (ek : EK) (p1 : Int32) (σ : Mem) (Y : va_W) (res : (Unit ⊕ Nat)) (h : fX5_checkNight p1 = some res) : CTX l cy D B ek yX5_checkNight cX5_checkNight 1 none ({ frames := 6, cells := 1, slots := 6, locals := 120 } : Room) 1 6 [.int p1] σ Y (Sum.map (fun _ => (none : Option Value)) id res) σ Y := by
  refine met_XX (own := "HostelBeds") (by decide) rfl (Nat.le_of_ble_eq_true rfl) ?_
  intro p e s m args below meth c C hrT hlk htab
  have hret : ∀ (x9 : Unit), res = .inl x9 → ∀ (cells9 slots9 pc9 : Nat) (lcs9 : List (Nat × Value)), decode cX5_checkNight pc9 = .ok (.return_, 1) → cells9 ≤ 1 → slots9 ≤ 6 → X p l e ({ frames := 6, cells := 1, slots := 6, locals := 120 } : Room) s m args below meth c 1 cy D B cells9 slots9 (vx_MQ below (QX cy D B (Sum.map (fun _ => (none : Option Value)) id res) σ Y) (XCX cy D B (Sum.map (fun _ => (none : Option Value)) id res) σ Y) args s 1 6 (aB B)) pc9 lcs9 [] σ Y := fun x9 hx9 cells9 slots9 pc9 lcs9 hd h1 h2 => by rw [hx9]; exact x_vretX C hrT hlk hd h1 h2
  have hthr : ∀ (k9 : Nat), res = .inr k9 → ∀ (cells9 slots9 pc9 : Nat) (lcs9 : List (Nat × Value)), (ThrowS "HostelBeds" cX5_checkNight pc9 k9 ∨ ThrowSW "HostelBeds" cX5_checkNight pc9 k9 ∨ ThrowN "HostelBeds" cX5_checkNight pc9 k9) → cells9 + 1 ≤ 1 → slots9 + 6 ≤ 6 → X p l e ({ frames := 6, cells := 1, slots := 6, locals := 120 } : Room) s m args below meth c 1 cy D B cells9 slots9 (vx_MQ below (QX cy D B (Sum.map (fun _ => (none : Option Value)) id res) σ Y) (XCX cy D B (Sum.map (fun _ => (none : Option Value)) id res) σ Y) args s 1 6 (aB B)) pc9 lcs9 [] σ Y := fun k9 hx9 cells9 slots9 pc9 lcs9 ht h1 h2 => by
    rw [hx9]
    rcases ht with ht | ht | ht
    · exact x_throwS C hlf ht htab (Nat.le_of_ble_eq_true rfl) (Nat.le_of_ble_eq_true rfl) h1 h2 hlk h1 h2
    · exact x_throwSW C hlf ht htab (Nat.le_of_ble_eq_true rfl) (Nat.le_of_ble_eq_true rfl) h1 h2 hlk h1 h2
    · exact x_throwN C hlf ht htab (Nat.le_of_ble_eq_true rfl) (Nat.le_of_ble_eq_true rfl) h1 h2 hlk h1 h2
  have hout : ∀ (k9 : Nat), res = .inr k9 → ∀ (cells9 slots9 pc9 : Nat) (lcs9 : List (Nat × Value)) (st9 : List Value), cells9 ≤ 1 → slots9 ≤ 6 → XO p l e ({ frames := 6, cells := 1, slots := 6, locals := 120 } : Room) s m args below meth c 1 cy D B cells9 slots9 (vx_MQ below (QX cy D B (Sum.map (fun _ => (none : Option Value)) id res) σ Y) (XCX cy D B (Sum.map (fun _ => (none : Option Value)) id res) σ Y) args s 1 6 (aB B)) pc9 lcs9 st9 σ Y k9 := fun k9 hx9 cells9 slots9 pc9 lcs9 st9 h1 h2 => by rw [hx9]; exact x_out C htab hlk h1 h2
  generalize (vx_MQ below (QX cy D B (Sum.map (fun _ => (none : Option Value)) id res) σ Y) (XCX cy D B (Sum.map (fun _ => (none : Option Value)) id res) σ Y) args s 1 6 (aB B)) = Q at hret hthr hout ⊢
  obtain ⟨R, hR9⟩ : ∃ R : Room, R = ({ frames := 6, cells := 1, slots := 6, locals := 120 } : Room) := ⟨_, rfl⟩
  rw [← hR9] at hret hthr hout ⊢
  unfold fX5_checkNight at h
  show X p l e R s m args below meth c 1 cy D B 0 0 Q 0 [(0, .int p1)] [] σ Y
  refine x_iload_n C dX5_checkNight_0 rfl 0 rfl ?_
  have hJ1 : ∀ (r9 : (Unit ⊕ Nat)), jX5_checkNight_10 = some r9 → (∀ (x9 : Unit), r9 = .inl x9 → ∀ (cells9 slots9 pc9 : Nat) (lcs9 : List (Nat × Value)), decode cX5_checkNight pc9 = .ok (.return_, 1) → cells9 ≤ 1 → slots9 ≤ 6 → X p l e R s m args below meth c 1 cy D B cells9 slots9 Q pc9 lcs9 [] σ Y) → (∀ (k9 : Nat), r9 = .inr k9 → ∀ (cells9 slots9 pc9 : Nat) (lcs9 : List (Nat × Value)), (ThrowS "HostelBeds" cX5_checkNight pc9 k9 ∨ ThrowSW "HostelBeds" cX5_checkNight pc9 k9 ∨ ThrowN "HostelBeds" cX5_checkNight pc9 k9) → cells9 + 1 ≤ 1 → slots9 + 6 ≤ 6 → X p l e R s m args below meth c 1 cy D B cells9 slots9 Q pc9 lcs9 [] σ Y) → (∀ (k9 : Nat), r9 = .inr k9 → ∀ (cells9 slots9 pc9 : Nat) (lcs9 : List (Nat × Value)) (st9 : List Value), cells9 ≤ 1 → slots9 ≤ 6 → XO p l e R s m args below meth c 1 cy D B cells9 slots9 Q pc9 lcs9 st9 σ Y k9) → X p l e R s m args below meth c 1 cy D B 0 0 Q 10 [] [] σ Y := by
    intro res9 h hret hthr hout
    unfold jX5_checkNight_10 at h
    cases h
    exact hthr _ rfl _ _ _ _ (Or.inr (Or.inl ⟨192, 356, 196, "no such night", dX5_checkNight_10, dX5_checkNight_13, dX5_checkNight_14, dX5_checkNight_17, dX5_checkNight_20, lw_g_mk tw_411 rfl, lw_g_mk tw_24 rfl, (by decide +kernel), (by decide +kernel), (by decide +kernel), hat_3, hgood_3⟩)) (by decide) (by decide)
  refine x_if_lt C (tgt := 10) dX5_checkNight_1 (by decide) (fun hc2 => ?_) (fun hc2 => ?_)
  · rw [if_pos hc2] at h
    refine x_sub [] rfl ?_
    exact hJ1 _ h hret hthr hout
  · rw [if_neg hc2] at h
    refine x_iload_n C dX5_checkNight_4 rfl 0 rfl ?_
    refine x_bipush C (v := 30) dX5_checkNight_5 (by decide) ?_
    refine x_icmp_lt C (tgt := 21) dX5_checkNight_7 (by decide) (fun hc3 => ?_) (fun hc3 => ?_)
    · rw [if_pos hc3] at h
      cases h
      exact hret _ rfl _ _ _ _ dX5_checkNight_21 (by decide) (by decide)
    · rw [if_neg hc3] at h
      refine x_sub [] rfl ?_
      exact hJ1 _ h hret hthr hout
def jX5_occupant_80 (a21 : Int32) : Option ((Int32) ⊕ ((Unit) ⊕ ((Int32 ⊕ Nat)))) := (some (.inl (a21 + (1 : Int32))))
def stX5_occupant_21 (σ : Mem) (p3 : Int32) (p1 : Int32) (p2 : Int32) (a21 : Int32) : Option ((Int32) ⊕ ((Unit) ⊕ ((Int32 ⊕ Nat)))) := (gd (rP σ 0 < 12) (if (rI σ 22 (rP σ 0) 0) ≤ a21 then (some (.inr (.inl ()))) else (gd (inb a21 17) ((fX0_staysIn (rP σ 0) a21.toNatClampNeg p3 σ).bind fun q7 => (if q7 = 0 then (jX5_occupant_80 a21) else ((fX3_hasBed 0 a21 (rI σ 44 (rP σ 0) a21.toNatClampNeg) ((p1 * (10 : Int32)) + p2) σ).bind fun q8 => (if q8 = 0 then (jX5_occupant_80 a21) else (some (.inr (.inr (.inl a21)))))))))))
def fX5_occupant (p1 : Int32) (p2 : Int32) (p3 : Int32) (σ : Mem) : Option ((Int32 ⊕ Nat)) := ((fX5_checkBed p1 p2 σ).bind fun q1 => Sum.elim (fun x2 => ((fX5_checkNight p3).bind fun q4 => Sum.elim (fun x5 => ((loop (stX5_occupant_21 σ p3 p1 p2) 5000 ((0 : Int32))).bind fun b21 => Sum.elim (fun z21 => (some (.inl (-1 : Int32)))) (fun w21 => (some w21)) b21)) (fun e6 => (some (.inr e6))) q4)) (fun e3 => (some (.inr e3))) q1)
set_option maxHeartbeats 4000000 in
set_option maxRecDepth 100000 in
theorem okX5_occupant (l : Launch) (hlf : l.stackTraces = false) (cy : Nat → ClassId) (D : va_G) (B : Nat) (ek : EK) (p1 : Int32) (p2 : Int32) (p3 : Int32) (σ : Mem) (Y : va_W) (res : (Int32 ⊕ Nat)) (h : fX5_occupant p1 p2 p3 σ = some res) : CTX l cy D B ek yX5_occupant cX5_occupant 6 (some .int) ({ frames := 8, cells := 3, slots := 18, locals := 163 } : Room) 3 18 [.ref (B + oHB), .int p1, .int p2, .int p3] σ Y (Sum.map (fun x => some (Value.int x)) id res) σ Y := by
  refine met_XX (own := "HostelBeds") (by decide) rfl (Nat.le_of_ble_eq_true rfl) ?_
  intro p e s m args below meth c C hrT hlk htab
  have hret : ∀ (x9 : Int32), res = .inl x9 → ∀ (cells9 slots9 pc9 : Nat) (lcs9 : List (Nat × Value)), decode cX5_occupant pc9 = .ok (.ireturn, 1) → narrow .int (.int x9) = .int x9 → cells9 ≤ 3 → slots9 ≤ 18 → X p l e ({ frames := 8, cells := 3, slots := 18, locals := 163 } : Room) s m args below meth c 6 cy D B cells9 slots9 (vx_MQ below (QX cy D B (Sum.map (fun x => some (Value.int x)) id res) σ Y) (XCX cy D B (Sum.map (fun x => some (Value.int x)) id res) σ Y) args s 3 18 (aB B)) pc9 lcs9 [.int x9] σ Y := fun x9 hx9 cells9 slots9 pc9 lcs9 hd hn h1 h2 => by rw [hx9]; exact x_zretX C hrT hlk hn hd h1 h2
  have hout : ∀ (k9 : Nat), res = .inr k9 → ∀ (cells9 slots9 pc9 : Nat) (lcs9 : List (Nat × Value)) (st9 : List Value), cells9 ≤ 3 → slots9 ≤ 18 → XO p l e ({ frames := 8, cells := 3, slots := 18, locals := 163 } : Room) s m args below meth c 6 cy D B cells9 slots9 (vx_MQ below (QX cy D B (Sum.map (fun x => some (Value.int x)) id res) σ Y) (XCX cy D B (Sum.map (fun x => some (Value.int x)) id res) σ Y) args s 3 18 (aB B)) pc9 lcs9 st9 σ Y k9 := fun k9 hx9 cells9 slots9 pc9 lcs9 st9 h1 h2 => by rw [hx9]; exact x_out C htab hlk h1 h2
  have hthr : True := trivial
  generalize (vx_MQ below (QX cy D B (Sum.map (fun x => some (Value.int x)) id res) σ Y) (XCX cy D B (Sum.map (fun x => some (Value.int x)) id res) σ Y) args s 3 18 (aB B)) = Q at hret hthr hout ⊢
  obtain ⟨R, hR9⟩ : ∃ R : Room, R = ({ frames := 8, cells := 3, slots := 18, locals := 163 } : Room) := ⟨_, rfl⟩
  rw [← hR9] at hret hout ⊢
  unfold fX5_occupant at h
  show X p l e R s m args below meth c 6 cy D B 0 0 Q 0 [(0, .ref (B + oHB)), (1, .int p1), (2, .int p2), (3, .int p3)] [] σ Y
  refine x_aload_n C dX5_occupant_0 rfl 0 rfl ?_
  refine x_iload_n C dX5_occupant_1 rfl 1 rfl ?_
  refine x_iload_n C dX5_occupant_2 rfl 2 rfl ?_
  obtain ⟨q1, hk1, h⟩ := Option.bind_eq_some_iff.mp h
  refine x_callVX C (As := [.int p1, .int p2]) (rest := []) (cells2 := 2) (slots2 := 12) (lw_g_mk tw_1117 rfl) (lw_g_mk tsel_5 rfl) (c_HB) (C1 := "HostelBeds") (T := TX5) (N := 12) (ci := 7) rfl (okX5_checkBed l hlf cy D B ek p1 p2 σ Y _ hk1) rfl rfl (by rw [hR9]; decide) (lw_g_mk tw_1118 rfl) (lw_g_mk tw_1 rfl) (by decide) rfl (lw_g_mk tw_1115 rfl) rfl (Nat.le_of_ble_eq_true rfl) dX5_occupant_3 (by rw [hR9]; decide) rfl rfl (fun v2 hv3 => ?_) (fun k4 hv5 => ?_)
  · rcases q1 with x2 | e3
    · rw [Sum.elim_inl] at h
      have hv3 : (Sum.inl (none) : Option Value ⊕ Nat) = .inl v2 := hv3
      cases hv3
      refine x_iload_n C dX5_occupant_6 rfl 3 rfl ?_
      obtain ⟨q4, hk7, h⟩ := Option.bind_eq_some_iff.mp h
      refine x_callSX C (As := [.int p3]) (rest := []) (cells2 := 3) (slots2 := 18) (lw_g_mk tw_1121 rfl) (okX5_checkNight l hlf cy D B ek p3 σ Y _ hk7) rfl rfl (by rw [hR9]; decide) (lw_g_mk tw_1122 rfl) (lw_g_mk tw_1 rfl) (by decide) rfl (lw_g_mk tw_1120 rfl) rfl (Nat.le_of_ble_eq_true rfl) dX5_occupant_7 (by rw [hR9]; decide) rfl rfl (fun v8 hv9 => ?_) (fun k10 hv11 => ?_)
      · rcases q4 with x5 | e6
        · rw [Sum.elim_inl] at h
          have hv9 : (Sum.inl (none) : Option Value ⊕ Nat) = .inl v8 := hv9
          cases hv9
          refine x_iload_n C dX5_occupant_10 rfl 1 rfl ?_
          refine x_bipush C (v := 10) dX5_occupant_11 (by decide) ?_
          refine x_imul C dX5_occupant_13 ?_
          refine x_iload_n C dX5_occupant_14 rfl 2 rfl ?_
          refine x_iadd C dX5_occupant_15 ?_
          refine x_istore C [(4, .int ((p1 * (10 : Int32)) + p2)), (0, .ref (B + oHB)), (1, .int p1), (2, .int p2), (3, .int p3)] dX5_occupant_16 (by decide) rfl ?_
          refine x_iconst C (v := 0) dX5_occupant_18 (by decide) ?_
          refine x_istore C [(5, .int (0 : Int32)), (4, .int ((p1 * (10 : Int32)) + p2)), (0, .ref (B + oHB)), (1, .int p1), (2, .int p2), (3, .int p3)] dX5_occupant_19 (by decide) rfl ?_
          obtain ⟨b21, hk23, h⟩ := Option.bind_eq_some_iff.mp h
          refine x_sub [2, 5, 1, 0] rfl ?_
          refine loop_run (step := stX5_occupant_21 σ p3 p1 p2) (P := fun (a21 : Int32) => X p l e R s m args below meth c 6 cy D B 3 18 Q 21 [(0, .ref (B + oHB)), (3, .int p3), (4, .int ((p1 * (10 : Int32)) + p2)), (5, .int a21)] [] σ Y) (K := fun (b21 : (Unit) ⊕ ((Int32 ⊕ Nat))) => Sum.elim (fun z21 => X p l e R s m args below meth c 6 cy D B 3 18 Q 86 [] [] σ Y) (fun w21 => ∀ (x9 : Int32), w21 = .inl x9 → ∀ (cells9 slots9 pc9 : Nat) (lcs9 : List (Nat × Value)), decode cX5_occupant pc9 = .ok (.ireturn, 1) → narrow .int (.int x9) = .int x9 → cells9 ≤ 3 → slots9 ≤ 18 → X p l e R s m args below meth c 6 cy D B cells9 slots9 Q pc9 lcs9 [.int x9] σ Y) b21) ?_ 5000 ((0 : Int32)) b21 hk23 ?_
          · intro a21 r h hA13 hB14
            unfold stX5_occupant_21 at h
            refine x_iload C dX5_occupant_21 3 rfl ?_
            refine x_aload_n C dX5_occupant_23 rfl 0 rfl ?_
            refine x_get C (C1 := "HostelBeds") (T := TX5) (N := 12) (ci := 7) inXg5 _ (c_HB) rfl 2 (by decide) (lw_g_mk tw_287 rfl) rfl dX5_occupant_24 ?_
            obtain ⟨hg15, h⟩ := gd_some h
            refine x_get C (C1 := "HostelBeds$Hostel") (T := TX1) (N := 12) (ci := 3) inXg1 _ (c_Ho hg15) rfl 4 (by decide) (lw_g_mk tw_198 rfl) rfl dX5_occupant_27 ?_
            refine x_icmp_ge C (tgt := 86) dX5_occupant_30 (by decide) (fun hc16 => ?_) (fun hc16 => ?_)
            · rw [if_pos hc16] at h
              cases h
              refine x_sub [] rfl ?_
              exact hB14 (.inl ()) rfl
            · rw [if_neg hc16] at h
              refine x_aload_n C dX5_occupant_33 rfl 0 rfl ?_
              refine x_get C (C1 := "HostelBeds") (T := TX5) (N := 12) (ci := 7) inXg5 _ (c_HB) rfl 2 (by decide) (lw_g_mk tw_287 rfl) rfl dX5_occupant_34 ?_
              refine x_get C (C1 := "HostelBeds$Hostel") (T := TX1) (N := 12) (ci := 3) inXg1 _ (c_Ho hg15) rfl 3 (by decide) (lw_g_mk tw_195 rfl) rfl dX5_occupant_37 ?_
              refine x_iload C dX5_occupant_40 3 rfl ?_
              obtain ⟨hg17, h⟩ := gd_some h
              refine x_aldq C _ 6 (C1 := "HostelBeds$Booking") (c_Bks hg15) rfl hg17 rfl dX5_occupant_42 ?_
              refine x_iload_n C dX5_occupant_43 rfl 1 rfl ?_
              obtain ⟨q7, hk18, h⟩ := Option.bind_eq_some_iff.mp h
              refine x_callV C (As := [.int p3]) (rest := []) (lw_g_mk tw_651 rfl) (lw_g_mk tw_652 rfl) (c_Bk hg15 (inb_lt hg17)) (C1 := "HostelBeds$Booking") (T := TX0) (N := 11) (ci := 2) rfl (okX0_staysIn l cy D B ek (rP σ 0) a21.toNatClampNeg p3 σ Y hg15 (inb_lt hg17) _ hk18) rfl rfl (by rw [hR9]; decide) (lw_g_mk tw_653 rfl) (lw_g_mk tw_5 rfl) (by decide) rfl (lw_g_mk tw_1124 rfl) rfl (Nat.le_of_ble_eq_true rfl) dX5_occupant_44 (by rw [hR9]; decide) ?_
              have hJ19 : ∀ (r9 : (Int32) ⊕ ((Unit) ⊕ ((Int32 ⊕ Nat)))), jX5_occupant_80 a21 = some r9 → (∀ a2, r9 = .inl a2 → (fun (a21 : Int32) => X p l e R s m args below meth c 6 cy D B 3 18 Q 21 [(0, .ref (B + oHB)), (3, .int p3), (4, .int ((p1 * (10 : Int32)) + p2)), (5, .int a21)] [] σ Y) a2) → (∀ b2, r9 = .inr b2 → (fun (b21 : (Unit) ⊕ ((Int32 ⊕ Nat))) => Sum.elim (fun z21 => X p l e R s m args below meth c 6 cy D B 3 18 Q 86 [] [] σ Y) (fun w21 => ∀ (x9 : Int32), w21 = .inl x9 → ∀ (cells9 slots9 pc9 : Nat) (lcs9 : List (Nat × Value)), decode cX5_occupant pc9 = .ok (.ireturn, 1) → narrow .int (.int x9) = .int x9 → cells9 ≤ 3 → slots9 ≤ 18 → X p l e R s m args below meth c 6 cy D B cells9 slots9 Q pc9 lcs9 [.int x9] σ Y) b21) b2) → X p l e R s m args below meth c 6 cy D B 3 18 Q 80 [(0, .ref (B + oHB)), (3, .int p3), (4, .int ((p1 * (10 : Int32)) + p2)), (5, .int a21)] [] σ Y := by
                intro r h hA13 hB14
                unfold jX5_occupant_80 at h
                refine x_iinc C (k := 3) [(5, .int (a21 + (1 : Int32))), (0, .ref (B + oHB)), (3, .int p3), (4, .int ((p1 * (10 : Int32)) + p2))] dX5_occupant_80 rfl rfl (by decide) rfl ?_
                refine x_goto C (tgt := 21) dX5_occupant_83 (by decide) ?_
                cases h
                refine x_sub [1, 2, 3, 0] rfl ?_
                exact hA13 (a21 + (1 : Int32)) rfl
              refine x_if_eq C (tgt := 80) dX5_occupant_47 (by decide) (fun hc20 => ?_) (fun hc20 => ?_)
              · rw [if_pos hc20] at h
                exact hJ19 _ h hA13 hB14
              · rw [if_neg hc20] at h
                refine x_aload_n C dX5_occupant_50 rfl 0 rfl ?_
                refine x_get C (C1 := "HostelBeds") (T := TX5) (N := 12) (ci := 7) inXg5 _ (c_HB) rfl 4 (by decide) (lw_g_mk tw_289 rfl) rfl dX5_occupant_51 ?_
                refine x_iload C dX5_occupant_54 3 rfl ?_
                refine x_aload_n C dX5_occupant_56 rfl 0 rfl ?_
                refine x_get C (C1 := "HostelBeds") (T := TX5) (N := 12) (ci := 7) inXg5 _ (c_HB) rfl 2 (by decide) (lw_g_mk tw_287 rfl) rfl dX5_occupant_57 ?_
                refine x_get C (C1 := "HostelBeds$Hostel") (T := TX1) (N := 12) (ci := 3) inXg1 _ (c_Ho hg15) rfl 3 (by decide) (lw_g_mk tw_195 rfl) rfl dX5_occupant_60 ?_
                refine x_iload C dX5_occupant_63 3 rfl ?_
                refine x_aldq C _ 6 (C1 := "HostelBeds$Booking") (c_Bks hg15) rfl hg17 rfl dX5_occupant_65 ?_
                refine x_get C (C1 := "HostelBeds$Booking") (T := TX0) (N := 11) (ci := 2) inXg0 _ (c_Bk hg15 (inb_lt hg17)) rfl 5 (by decide) (lw_g_mk tw_133 rfl) rfl dX5_occupant_66 ?_
                refine x_iload C dX5_occupant_69 2 rfl ?_
                obtain ⟨q8, hk21, h⟩ := Option.bind_eq_some_iff.mp h
                refine x_callV C (As := [.int a21, .int (rI σ 44 (rP σ 0) a21.toNatClampNeg), .int ((p1 * (10 : Int32)) + p2)]) (rest := []) (lw_g_mk tw_1126 rfl) (lw_g_mk tw_1127 rfl) (c_Pl (by decide)) (C1 := "HostelBeds$Plan") (T := TX3) (N := 8) (ci := 5) rfl (okX3_hasBed l cy D B ek 0 a21 (rI σ 44 (rP σ 0) a21.toNatClampNeg) ((p1 * (10 : Int32)) + p2) σ Y (by decide) _ hk21) rfl rfl (by rw [hR9]; decide) (lw_g_mk tw_1128 rfl) (lw_g_mk tw_6 rfl) (by decide) rfl (lw_g_mk tw_1125 rfl) rfl (Nat.le_of_ble_eq_true rfl) dX5_occupant_71 (by rw [hR9]; decide) ?_
                refine x_if_eq C (tgt := 80) dX5_occupant_74 (by decide) (fun hc22 => ?_) (fun hc22 => ?_)
                · rw [if_pos hc22] at h
                  exact hJ19 _ h hA13 hB14
                · rw [if_neg hc22] at h
                  refine x_iload C dX5_occupant_77 3 rfl ?_
                  cases h
                  exact hB14 (.inr (.inl a21)) rfl _ rfl _ _ _ _ dX5_occupant_79 rfl (by decide) (by decide)
          · rcases b21 with z21 | w21
            · rw [Sum.elim_inl] at h
              show X p l e R s m args below meth c 6 cy D B 3 18 Q 86 [] [] σ Y
              refine x_iconst C (v := -1) dX5_occupant_86 (by decide) ?_
              cases h
              exact hret _ rfl _ _ _ _ dX5_occupant_87 rfl (by decide) (by decide)
            · rw [Sum.elim_inr] at h
              show ∀ (x9 : Int32), w21 = .inl x9 → ∀ (cells9 slots9 pc9 : Nat) (lcs9 : List (Nat × Value)), decode cX5_occupant pc9 = .ok (.ireturn, 1) → narrow .int (.int x9) = .int x9 → cells9 ≤ 3 → slots9 ≤ 18 → X p l e R s m args below meth c 6 cy D B cells9 slots9 Q pc9 lcs9 [.int x9] σ Y
              cases h
              exact hret
        · cases hv9
      · rcases q4 with x5 | e6
        · cases hv11
        · rw [Sum.elim_inr] at h
          have hv11 : (Sum.inr e6 : Option Value ⊕ Nat) = .inr k10 := hv11
          cases hv11
          cases h
          exact hout _ rfl _ _ _ _ _ (by decide) (by decide)
    · cases hv3
  · rcases q1 with x2 | e3
    · cases hv5
    · rw [Sum.elim_inr] at h
      have hv5 : (Sum.inr e3 : Option Value ⊕ Nat) = .inr k4 := hv5
      cases hv5
      cases h
      exact hout _ rfl _ _ _ _ _ (by decide) (by decide)
def stX5_takenBeds_4 (σ : Mem) (p1 : Int32) (a4 : Int32 × Int32) : Option ((Int32 × Int32) ⊕ (Int32)) := (gd (rP σ 0 < 12) (if (rI σ 20 (rP σ 0) 0) ≤ a4.2 then (some (.inr a4.1)) else ((fX3_taken 0 a4.2 p1 σ).bind fun q1 => (some (.inl (a4.1 + q1, a4.2 + (1 : Int32)))))))
def fX5_takenBeds (p1 : Int32) (σ : Mem) : Option (Int32) := ((loop (stX5_takenBeds_4 σ p1) 5000 ((0 : Int32), (0 : Int32))).bind fun b4 => (some b4))
set_option maxHeartbeats 4000000 in
set_option maxRecDepth 100000 in
theorem okX5_takenBeds (l : Launch) (cy : Nat → ClassId) (D : va_G) (B : Nat) (ek : EK) (p1 : Int32) (σ : Mem) (Y : va_W) (res : Int32) (h : fX5_takenBeds p1 σ = some res) : CT l cy D B ek yX5_takenBeds cX5_takenBeds 4 (some .int) ({ frames := 2, cells := 0, slots := 0, locals := 46 } : Room) [.ref (B + oHB), .int p1] σ Y (some (.int res)) σ Y := by
  refine met_X (own := "HostelBeds") (by decide) rfl (Nat.le_of_ble_eq_true rfl) ?_
  intro p e s m args below meth c C hrT hlk
  have hret : ∀ (pc9 : Nat) (lcs9 : List (Nat × Value)), decode cX5_takenBeds pc9 = .ok (.ireturn, 1) → narrow .int (.int res) = .int res → X p l e ({ frames := 2, cells := 0, slots := 0, locals := 46 } : Room) s m args below meth c 4 cy D B 0 0 (MQ below (QR cy D B (some (.int res)) σ Y) args s 0 0 (aB B)) pc9 lcs9 [.int res] σ Y := fun _ _ hd hn => x_zret C hrT hlk hn hd
  generalize (MQ below (QR cy D B (some (.int res)) σ Y) args s 0 0 (aB B)) = Q at hret ⊢
  obtain ⟨R, hR9⟩ : ∃ R : Room, R = ({ frames := 2, cells := 0, slots := 0, locals := 46 } : Room) := ⟨_, rfl⟩
  rw [← hR9] at hret ⊢
  unfold fX5_takenBeds at h
  show X p l e R s m args below meth c 4 cy D B 0 0 Q 0 [(0, .ref (B + oHB)), (1, .int p1)] [] σ Y
  refine x_iconst C (v := 0) dX5_takenBeds_0 (by decide) ?_
  refine x_istore_n C [(2, .int (0 : Int32)), (0, .ref (B + oHB)), (1, .int p1)] dX5_takenBeds_1 rfl (by decide) rfl ?_
  refine x_iconst C (v := 0) dX5_takenBeds_2 (by decide) ?_
  refine x_istore_n C [(3, .int (0 : Int32)), (2, .int (0 : Int32)), (0, .ref (B + oHB)), (1, .int p1)] dX5_takenBeds_3 rfl (by decide) rfl ?_
  obtain ⟨b4, hk6, h⟩ := Option.bind_eq_some_iff.mp h
  refine x_sub [2, 3, 1, 0] rfl ?_
  refine loop_run (step := stX5_takenBeds_4 σ p1) (P := fun (a4 : Int32 × Int32) => X p l e R s m args below meth c 4 cy D B 0 0 Q 4 [(0, .ref (B + oHB)), (1, .int p1), (2, .int a4.1), (3, .int a4.2)] [] σ Y) (K := fun (b4 : Int32) => X p l e R s m args below meth c 4 cy D B 0 0 Q 33 [(2, .int b4)] [] σ Y) ?_ 5000 ((0 : Int32), (0 : Int32)) b4 hk6 ?_
  · intro a4 r h hA1 hB2
    unfold stX5_takenBeds_4 at h
    refine x_iload_n C dX5_takenBeds_4 rfl 3 rfl ?_
    refine x_aload_n C dX5_takenBeds_5 rfl 0 rfl ?_
    refine x_get C (C1 := "HostelBeds") (T := TX5) (N := 12) (ci := 7) inXg5 _ (c_HB) rfl 2 (by decide) (lw_g_mk tw_287 rfl) rfl dX5_takenBeds_6 ?_
    obtain ⟨hg3, h⟩ := gd_some h
    refine x_get C (C1 := "HostelBeds$Hostel") (T := TX1) (N := 12) (ci := 3) inXg1 _ (c_Ho hg3) rfl 1 (by decide) (lw_g_mk tw_187 rfl) rfl dX5_takenBeds_9 ?_
    refine x_icmp_ge C (tgt := 33) dX5_takenBeds_12 (by decide) (fun hc4 => ?_) (fun hc4 => ?_)
    · rw [if_pos hc4] at h
      cases h
      refine x_sub [2] rfl ?_
      exact hB2 a4.1 rfl
    · rw [if_neg hc4] at h
      refine x_iload_n C dX5_takenBeds_15 rfl 2 rfl ?_
      refine x_aload_n C dX5_takenBeds_16 rfl 0 rfl ?_
      refine x_get C (C1 := "HostelBeds") (T := TX5) (N := 12) (ci := 7) inXg5 _ (c_HB) rfl 4 (by decide) (lw_g_mk tw_289 rfl) rfl dX5_takenBeds_17 ?_
      refine x_iload_n C dX5_takenBeds_20 rfl 3 rfl ?_
      refine x_iload_n C dX5_takenBeds_21 rfl 1 rfl ?_
      obtain ⟨q1, hk5, h⟩ := Option.bind_eq_some_iff.mp h
      refine x_callV C (As := [.int a4.2, .int p1]) (rest := [.int a4.1]) (lw_g_mk tw_460 rfl) (lw_g_mk tw_461 rfl) (c_Pl (by decide)) (C1 := "HostelBeds$Plan") (T := TX3) (N := 8) (ci := 5) rfl (okX3_taken l cy D B ek 0 a4.2 p1 σ Y (by decide) _ hk5) rfl rfl (by rw [hR9]; decide) (lw_g_mk tw_462 rfl) (lw_g_mk tw_6 rfl) (by decide) rfl (lw_g_mk tw_459 rfl) rfl (Nat.le_of_ble_eq_true rfl) dX5_takenBeds_22 (by rw [hR9]; decide) ?_
      refine x_iadd C dX5_takenBeds_25 ?_
      refine x_istore_n C [(2, .int (a4.1 + q1)), (0, .ref (B + oHB)), (1, .int p1), (3, .int a4.2)] dX5_takenBeds_26 rfl (by decide) rfl ?_
      refine x_iinc C (k := 3) [(3, .int (a4.2 + (1 : Int32))), (2, .int (a4.1 + q1)), (0, .ref (B + oHB)), (1, .int p1)] dX5_takenBeds_27 rfl rfl (by decide) rfl ?_
      refine x_goto C (tgt := 4) dX5_takenBeds_30 (by decide) ?_
      cases h
      refine x_sub [2, 3, 1, 0] rfl ?_
      exact hA1 (a4.1 + q1, a4.2 + (1 : Int32)) rfl
  · show X p l e R s m args below meth c 4 cy D B 0 0 Q 33 [(2, .int b4)] [] σ Y
    refine x_iload_n C dX5_takenBeds_33 rfl 0 rfl ?_
    cases h
    exact hret _ _ dX5_takenBeds_34 rfl
def fX5_occupied (p1 : Int32) (σ : Mem) : Option ((Int32 ⊕ Nat)) := ((fX5_checkNight p1).bind fun q1 => Sum.elim (fun x2 => ((fX5_takenBeds p1 σ).bind fun q4 => (some (.inl q4)))) (fun e3 => (some (.inr e3))) q1)
set_option maxHeartbeats 4000000 in
set_option maxRecDepth 100000 in
theorem okX5_occupied (l : Launch) (hlf : l.stackTraces = false) (cy : Nat → ClassId) (D : va_G) (B : Nat) (ek : EK) (p1 : Int32) (σ : Mem) (Y : va_W) (res : (Int32 ⊕ Nat)) (h : fX5_occupied p1 σ = some res) : CTX l cy D B ek yX5_occupied cX5_occupied 2 (some .int) ({ frames := 7, cells := 1, slots := 6, locals := 140 } : Room) 1 6 [.ref (B + oHB), .int p1] σ Y (Sum.map (fun x => some (Value.int x)) id res) σ Y := by
  refine met_XX (own := "HostelBeds") (by decide) rfl (Nat.le_of_ble_eq_true rfl) ?_
  intro p e s m args below meth c C hrT hlk htab
  have hret : ∀ (x9 : Int32), res = .inl x9 → ∀ (cells9 slots9 pc9 : Nat) (lcs9 : List (Nat × Value)), decode cX5_occupied pc9 = .ok (.ireturn, 1) → narrow .int (.int x9) = .int x9 → cells9 ≤ 1 → slots9 ≤ 6 → X p l e ({ frames := 7, cells := 1, slots := 6, locals := 140 } : Room) s m args below meth c 2 cy D B cells9 slots9 (vx_MQ below (QX cy D B (Sum.map (fun x => some (Value.int x)) id res) σ Y) (XCX cy D B (Sum.map (fun x => some (Value.int x)) id res) σ Y) args s 1 6 (aB B)) pc9 lcs9 [.int x9] σ Y := fun x9 hx9 cells9 slots9 pc9 lcs9 hd hn h1 h2 => by rw [hx9]; exact x_zretX C hrT hlk hn hd h1 h2
  have hout : ∀ (k9 : Nat), res = .inr k9 → ∀ (cells9 slots9 pc9 : Nat) (lcs9 : List (Nat × Value)) (st9 : List Value), cells9 ≤ 1 → slots9 ≤ 6 → XO p l e ({ frames := 7, cells := 1, slots := 6, locals := 140 } : Room) s m args below meth c 2 cy D B cells9 slots9 (vx_MQ below (QX cy D B (Sum.map (fun x => some (Value.int x)) id res) σ Y) (XCX cy D B (Sum.map (fun x => some (Value.int x)) id res) σ Y) args s 1 6 (aB B)) pc9 lcs9 st9 σ Y k9 := fun k9 hx9 cells9 slots9 pc9 lcs9 st9 h1 h2 => by rw [hx9]; exact x_out C htab hlk h1 h2
  have hthr : True := trivial
  generalize (vx_MQ below (QX cy D B (Sum.map (fun x => some (Value.int x)) id res) σ Y) (XCX cy D B (Sum.map (fun x => some (Value.int x)) id res) σ Y) args s 1 6 (aB B)) = Q at hret hthr hout ⊢
  obtain ⟨R, hR9⟩ : ∃ R : Room, R = ({ frames := 7, cells := 1, slots := 6, locals := 140 } : Room) := ⟨_, rfl⟩
  rw [← hR9] at hret hout ⊢
  unfold fX5_occupied at h
  show X p l e R s m args below meth c 2 cy D B 0 0 Q 0 [(0, .ref (B + oHB)), (1, .int p1)] [] σ Y
  refine x_iload_n C dX5_occupied_0 rfl 1 rfl ?_
  obtain ⟨q1, hk1, h⟩ := Option.bind_eq_some_iff.mp h
  refine x_callSX C (As := [.int p1]) (rest := []) (cells2 := 1) (slots2 := 6) (lw_g_mk tw_1121 rfl) (okX5_checkNight l hlf cy D B ek p1 σ Y _ hk1) rfl rfl (by rw [hR9]; decide) (lw_g_mk tw_1122 rfl) (lw_g_mk tw_1 rfl) (by decide) rfl (lw_g_mk tw_1120 rfl) rfl (Nat.le_of_ble_eq_true rfl) dX5_occupied_1 (by rw [hR9]; decide) rfl rfl (fun v2 hv3 => ?_) (fun k4 hv5 => ?_)
  · rcases q1 with x2 | e3
    · rw [Sum.elim_inl] at h
      have hv3 : (Sum.inl (none) : Option Value ⊕ Nat) = .inl v2 := hv3
      cases hv3
      refine x_aload_n C dX5_occupied_4 rfl 0 rfl ?_
      refine x_iload_n C dX5_occupied_5 rfl 1 rfl ?_
      obtain ⟨q4, hk7, h⟩ := Option.bind_eq_some_iff.mp h
      refine x_callV C (As := [.int p1]) (rest := []) (lw_g_mk tw_457 rfl) (lw_g_mk tsel_3 rfl) (c_HB) (C1 := "HostelBeds") (T := TX5) (N := 12) (ci := 7) rfl (okX5_takenBeds l cy D B ek p1 σ Y _ hk7) rfl rfl (by rw [hR9]; decide) (lw_g_mk tw_458 rfl) (lw_g_mk tw_1 rfl) (by decide) rfl (lw_g_mk tw_455 rfl) rfl (Nat.le_of_ble_eq_true rfl) dX5_occupied_6 (by rw [hR9]; decide) ?_
      cases h
      exact hret _ rfl _ _ _ _ dX5_occupied_9 rfl (by decide) (by decide)
    · cases hv3
  · rcases q1 with x2 | e3
    · cases hv5
    · rw [Sum.elim_inr] at h
      have hv5 : (Sum.inr e3 : Option Value ⊕ Nat) = .inr k4 := hv5
      cases hv5
      cases h
      exact hout _ rfl _ _ _ _ _ (by decide) (by decide)
def fX5_booked (p1 : Int32) (σ : Mem) : Option ((Int32 ⊕ Nat)) := ((fX5_checkNight p1).bind fun q1 => Sum.elim (fun x2 => (gd (rP σ 0 < 12) (gd (inb p1 30) (some (.inl (rI σ 29 (rP σ 0) p1.toNatClampNeg)))))) (fun e3 => (some (.inr e3))) q1)
set_option maxHeartbeats 4000000 in
set_option maxRecDepth 100000 in
theorem okX5_booked (l : Launch) (hlf : l.stackTraces = false) (cy : Nat → ClassId) (D : va_G) (B : Nat) (ek : EK) (p1 : Int32) (σ : Mem) (Y : va_W) (res : (Int32 ⊕ Nat)) (h : fX5_booked p1 σ = some res) : CTX l cy D B ek yX5_booked cX5_booked 2 (some .int) ({ frames := 7, cells := 1, slots := 6, locals := 140 } : Room) 1 6 [.ref (B + oHB), .int p1] σ Y (Sum.map (fun x => some (Value.int x)) id res) σ Y := by
  refine met_XX (own := "HostelBeds") (by decide) rfl (Nat.le_of_ble_eq_true rfl) ?_
  intro p e s m args below meth c C hrT hlk htab
  have hret : ∀ (x9 : Int32), res = .inl x9 → ∀ (cells9 slots9 pc9 : Nat) (lcs9 : List (Nat × Value)), decode cX5_booked pc9 = .ok (.ireturn, 1) → narrow .int (.int x9) = .int x9 → cells9 ≤ 1 → slots9 ≤ 6 → X p l e ({ frames := 7, cells := 1, slots := 6, locals := 140 } : Room) s m args below meth c 2 cy D B cells9 slots9 (vx_MQ below (QX cy D B (Sum.map (fun x => some (Value.int x)) id res) σ Y) (XCX cy D B (Sum.map (fun x => some (Value.int x)) id res) σ Y) args s 1 6 (aB B)) pc9 lcs9 [.int x9] σ Y := fun x9 hx9 cells9 slots9 pc9 lcs9 hd hn h1 h2 => by rw [hx9]; exact x_zretX C hrT hlk hn hd h1 h2
  have hout : ∀ (k9 : Nat), res = .inr k9 → ∀ (cells9 slots9 pc9 : Nat) (lcs9 : List (Nat × Value)) (st9 : List Value), cells9 ≤ 1 → slots9 ≤ 6 → XO p l e ({ frames := 7, cells := 1, slots := 6, locals := 140 } : Room) s m args below meth c 2 cy D B cells9 slots9 (vx_MQ below (QX cy D B (Sum.map (fun x => some (Value.int x)) id res) σ Y) (XCX cy D B (Sum.map (fun x => some (Value.int x)) id res) σ Y) args s 1 6 (aB B)) pc9 lcs9 st9 σ Y k9 := fun k9 hx9 cells9 slots9 pc9 lcs9 st9 h1 h2 => by rw [hx9]; exact x_out C htab hlk h1 h2
  have hthr : True := trivial
  generalize (vx_MQ below (QX cy D B (Sum.map (fun x => some (Value.int x)) id res) σ Y) (XCX cy D B (Sum.map (fun x => some (Value.int x)) id res) σ Y) args s 1 6 (aB B)) = Q at hret hthr hout ⊢
  obtain ⟨R, hR9⟩ : ∃ R : Room, R = ({ frames := 7, cells := 1, slots := 6, locals := 140 } : Room) := ⟨_, rfl⟩
  rw [← hR9] at hret hout ⊢
  unfold fX5_booked at h
  show X p l e R s m args below meth c 2 cy D B 0 0 Q 0 [(0, .ref (B + oHB)), (1, .int p1)] [] σ Y
  refine x_iload_n C dX5_booked_0 rfl 1 rfl ?_
  obtain ⟨q1, hk1, h⟩ := Option.bind_eq_some_iff.mp h
  refine x_callSX C (As := [.int p1]) (rest := []) (cells2 := 1) (slots2 := 6) (lw_g_mk tw_1121 rfl) (okX5_checkNight l hlf cy D B ek p1 σ Y _ hk1) rfl rfl (by rw [hR9]; decide) (lw_g_mk tw_1122 rfl) (lw_g_mk tw_1 rfl) (by decide) rfl (lw_g_mk tw_1120 rfl) rfl (Nat.le_of_ble_eq_true rfl) dX5_booked_1 (by rw [hR9]; decide) rfl rfl (fun v2 hv3 => ?_) (fun k4 hv5 => ?_)
  · rcases q1 with x2 | e3
    · rw [Sum.elim_inl] at h
      have hv3 : (Sum.inl (none) : Option Value ⊕ Nat) = .inl v2 := hv3
      cases hv3
      refine x_aload_n C dX5_booked_4 rfl 0 rfl ?_
      refine x_get C (C1 := "HostelBeds") (T := TX5) (N := 12) (ci := 7) inXg5 _ (c_HB) rfl 2 (by decide) (lw_g_mk tw_287 rfl) rfl dX5_booked_5 ?_
      obtain ⟨hg7, h⟩ := gd_some h
      refine x_get C (C1 := "HostelBeds$Hostel") (T := TX1) (N := 12) (ci := 3) inXg1 _ (c_Ho hg7) rfl 7 (by decide) (lw_g_mk tw_206 rfl) rfl dX5_booked_8 ?_
      refine x_iload_n C dX5_booked_11 rfl 1 rfl ?_
      obtain ⟨hg8, h⟩ := gd_some h
      refine x_iald C _ (c_Crd hg7) hg8 dX5_booked_12 ?_
      cases h
      exact hret _ rfl _ _ _ _ dX5_booked_13 rfl (by decide) (by decide)
    · cases hv3
  · rcases q1 with x2 | e3
    · cases hv5
    · rw [Sum.elim_inr] at h
      have hv5 : (Sum.inr e3 : Option Value ⊕ Nat) = .inr k4 := hv5
      cases hv5
      cases h
      exact hout _ rfl _ _ _ _ _ (by decide) (by decide)
def jX5_fullNights_38 (a4 : Int32 × Int32) (x1 : Int32) : Option ((Int32 × Int32) ⊕ (Int32)) := (some (.inl (x1, a4.2 + (1 : Int32))))
def stX5_fullNights_4 (σ : Mem) (a4 : Int32 × Int32) : Option ((Int32 × Int32) ⊕ (Int32)) := (if (30 : Int32) ≤ a4.2 then (some (.inr a4.1)) else (gd (rP σ 0 < 12) (if (rI σ 20 (rP σ 0) 0) ≤ 0 then (jX5_fullNights_38 a4 a4.1) else ((fX5_takenBeds a4.2 σ).bind fun q2 => (if ¬ q2 = (rI σ 21 (rP σ 0) 0) then (jX5_fullNights_38 a4 a4.1) else (jX5_fullNights_38 a4 (a4.1 + (1 : Int32))))))))
def fX5_fullNights (σ : Mem) : Option (Int32) := ((loop (stX5_fullNights_4 σ) 5000 ((0 : Int32), (0 : Int32))).bind fun b4 => (some b4))
set_option maxHeartbeats 4000000 in
set_option maxRecDepth 100000 in
theorem okX5_fullNights (l : Launch) (cy : Nat → ClassId) (D : va_G) (B : Nat) (ek : EK) (σ : Mem) (Y : va_W) (res : Int32) (h : fX5_fullNights σ = some res) : CT l cy D B ek yX5_fullNights cX5_fullNights 3 (some .int) ({ frames := 3, cells := 0, slots := 0, locals := 69 } : Room) [.ref (B + oHB)] σ Y (some (.int res)) σ Y := by
  refine met_X (own := "HostelBeds") (by decide) rfl (Nat.le_of_ble_eq_true rfl) ?_
  intro p e s m args below meth c C hrT hlk
  have hret : ∀ (pc9 : Nat) (lcs9 : List (Nat × Value)), decode cX5_fullNights pc9 = .ok (.ireturn, 1) → narrow .int (.int res) = .int res → X p l e ({ frames := 3, cells := 0, slots := 0, locals := 69 } : Room) s m args below meth c 3 cy D B 0 0 (MQ below (QR cy D B (some (.int res)) σ Y) args s 0 0 (aB B)) pc9 lcs9 [.int res] σ Y := fun _ _ hd hn => x_zret C hrT hlk hn hd
  generalize (MQ below (QR cy D B (some (.int res)) σ Y) args s 0 0 (aB B)) = Q at hret ⊢
  obtain ⟨R, hR9⟩ : ∃ R : Room, R = ({ frames := 3, cells := 0, slots := 0, locals := 69 } : Room) := ⟨_, rfl⟩
  rw [← hR9] at hret ⊢
  unfold fX5_fullNights at h
  show X p l e R s m args below meth c 3 cy D B 0 0 Q 0 [(0, .ref (B + oHB))] [] σ Y
  refine x_iconst C (v := 0) dX5_fullNights_0 (by decide) ?_
  refine x_istore_n C [(1, .int (0 : Int32)), (0, .ref (B + oHB))] dX5_fullNights_1 rfl (by decide) rfl ?_
  refine x_iconst C (v := 0) dX5_fullNights_2 (by decide) ?_
  refine x_istore_n C [(2, .int (0 : Int32)), (1, .int (0 : Int32)), (0, .ref (B + oHB))] dX5_fullNights_3 rfl (by decide) rfl ?_
  obtain ⟨b4, hk9, h⟩ := Option.bind_eq_some_iff.mp h
  refine x_sub [2, 1, 0] rfl ?_
  refine loop_run (step := stX5_fullNights_4 σ) (P := fun (a4 : Int32 × Int32) => X p l e R s m args below meth c 3 cy D B 0 0 Q 4 [(0, .ref (B + oHB)), (1, .int a4.1), (2, .int a4.2)] [] σ Y) (K := fun (b4 : Int32) => X p l e R s m args below meth c 3 cy D B 0 0 Q 44 [(1, .int b4)] [] σ Y) ?_ 5000 ((0 : Int32), (0 : Int32)) b4 hk9 ?_
  · intro a4 r h hA1 hB2
    unfold stX5_fullNights_4 at h
    refine x_iload_n C dX5_fullNights_4 rfl 2 rfl ?_
    refine x_bipush C (v := 30) dX5_fullNights_5 (by decide) ?_
    refine x_icmp_ge C (tgt := 44) dX5_fullNights_7 (by decide) (fun hc3 => ?_) (fun hc3 => ?_)
    · rw [if_pos hc3] at h
      cases h
      refine x_sub [1] rfl ?_
      exact hB2 a4.1 rfl
    · rw [if_neg hc3] at h
      refine x_aload_n C dX5_fullNights_10 rfl 0 rfl ?_
      refine x_get C (C1 := "HostelBeds") (T := TX5) (N := 12) (ci := 7) inXg5 _ (c_HB) rfl 2 (by decide) (lw_g_mk tw_287 rfl) rfl dX5_fullNights_11 ?_
      obtain ⟨hg4, h⟩ := gd_some h
      refine x_get C (C1 := "HostelBeds$Hostel") (T := TX1) (N := 12) (ci := 3) inXg1 _ (c_Ho hg4) rfl 1 (by decide) (lw_g_mk tw_187 rfl) rfl dX5_fullNights_14 ?_
      have hJ5 : ∀ (x1 : Int32) (r9 : (Int32 × Int32) ⊕ (Int32)), jX5_fullNights_38 a4 x1 = some r9 → (∀ a2, r9 = .inl a2 → (fun (a4 : Int32 × Int32) => X p l e R s m args below meth c 3 cy D B 0 0 Q 4 [(0, .ref (B + oHB)), (1, .int a4.1), (2, .int a4.2)] [] σ Y) a2) → (∀ b2, r9 = .inr b2 → (fun (b4 : Int32) => X p l e R s m args below meth c 3 cy D B 0 0 Q 44 [(1, .int b4)] [] σ Y) b2) → X p l e R s m args below meth c 3 cy D B 0 0 Q 38 [(0, .ref (B + oHB)), (1, .int x1), (2, .int a4.2)] [] σ Y := by
        intro x1 r h hA1 hB2
        unfold jX5_fullNights_38 at h
        refine x_iinc C (k := 2) [(2, .int (a4.2 + (1 : Int32))), (0, .ref (B + oHB)), (1, .int x1)] dX5_fullNights_38 rfl rfl (by decide) rfl ?_
        refine x_goto C (tgt := 4) dX5_fullNights_41 (by decide) ?_
        cases h
        refine x_sub [1, 2, 0] rfl ?_
        exact hA1 (x1, a4.2 + (1 : Int32)) rfl
      refine x_if_le C (tgt := 38) dX5_fullNights_17 (by decide) (fun hc6 => ?_) (fun hc6 => ?_)
      · rw [if_pos hc6] at h
        exact hJ5 a4.1 _ h hA1 hB2
      · rw [if_neg hc6] at h
        refine x_aload_n C dX5_fullNights_20 rfl 0 rfl ?_
        refine x_iload_n C dX5_fullNights_21 rfl 2 rfl ?_
        obtain ⟨q2, hk7, h⟩ := Option.bind_eq_some_iff.mp h
        refine x_callV C (As := [.int a4.2]) (rest := []) (lw_g_mk tw_457 rfl) (lw_g_mk tsel_3 rfl) (c_HB) (C1 := "HostelBeds") (T := TX5) (N := 12) (ci := 7) rfl (okX5_takenBeds l cy D B ek a4.2 σ Y _ hk7) rfl rfl (by rw [hR9]; decide) (lw_g_mk tw_458 rfl) (lw_g_mk tw_1 rfl) (by decide) rfl (lw_g_mk tw_455 rfl) rfl (Nat.le_of_ble_eq_true rfl) dX5_fullNights_22 (by rw [hR9]; decide) ?_
        refine x_aload_n C dX5_fullNights_25 rfl 0 rfl ?_
        refine x_get C (C1 := "HostelBeds") (T := TX5) (N := 12) (ci := 7) inXg5 _ (c_HB) rfl 2 (by decide) (lw_g_mk tw_287 rfl) rfl dX5_fullNights_26 ?_
        refine x_get C (C1 := "HostelBeds$Hostel") (T := TX1) (N := 12) (ci := 3) inXg1 _ (c_Ho hg4) rfl 2 (by decide) (lw_g_mk tw_191 rfl) rfl dX5_fullNights_29 ?_
        refine x_icmp_ne C (tgt := 38) dX5_fullNights_32 (by decide) (fun hc8 => ?_) (fun hc8 => ?_)
        · rw [if_pos hc8] at h
          exact hJ5 a4.1 _ h hA1 hB2
        · rw [if_neg hc8] at h
          refine x_iinc C (k := 1) [(1, .int (a4.1 + (1 : Int32))), (0, .ref (B + oHB)), (2, .int a4.2)] dX5_fullNights_35 rfl rfl (by decide) rfl ?_
          refine x_sub [1, 0, 2] rfl ?_
          exact hJ5 (a4.1 + (1 : Int32)) _ h hA1 hB2
  · show X p l e R s m args below meth c 3 cy D B 0 0 Q 44 [(1, .int b4)] [] σ Y
    refine x_iload_n C dX5_fullNights_44 rfl 0 rfl ?_
    cases h
    exact hret _ _ dX5_fullNights_45 rfl
def fX5_pays (p1 : Int32) (σ : Mem) : Option ((Int32 ⊕ Nat)) := ((fX5_checkBooking p1 σ).bind fun q1 => Sum.elim (fun x2 => (gd (inb p1 17) (some (.inl (rI σ 54 0 p1.toNatClampNeg))))) (fun e3 => (some (.inr e3))) q1)
set_option maxHeartbeats 4000000 in
set_option maxRecDepth 100000 in
theorem okX5_pays (l : Launch) (hlf : l.stackTraces = false) (cy : Nat → ClassId) (D : va_G) (B : Nat) (ek : EK) (p1 : Int32) (σ : Mem) (Y : va_W) (res : (Int32 ⊕ Nat)) (h : fX5_pays p1 σ = some res) : CTX l cy D B ek yX5_pays cX5_pays 2 (some .int) ({ frames := 7, cells := 1, slots := 6, locals := 141 } : Room) 1 6 [.ref (B + oHB), .int p1] σ Y (Sum.map (fun x => some (Value.int x)) id res) σ Y := by
  refine met_XX (own := "HostelBeds") (by decide) rfl (Nat.le_of_ble_eq_true rfl) ?_
  intro p e s m args below meth c C hrT hlk htab
  have hret : ∀ (x9 : Int32), res = .inl x9 → ∀ (cells9 slots9 pc9 : Nat) (lcs9 : List (Nat × Value)), decode cX5_pays pc9 = .ok (.ireturn, 1) → narrow .int (.int x9) = .int x9 → cells9 ≤ 1 → slots9 ≤ 6 → X p l e ({ frames := 7, cells := 1, slots := 6, locals := 141 } : Room) s m args below meth c 2 cy D B cells9 slots9 (vx_MQ below (QX cy D B (Sum.map (fun x => some (Value.int x)) id res) σ Y) (XCX cy D B (Sum.map (fun x => some (Value.int x)) id res) σ Y) args s 1 6 (aB B)) pc9 lcs9 [.int x9] σ Y := fun x9 hx9 cells9 slots9 pc9 lcs9 hd hn h1 h2 => by rw [hx9]; exact x_zretX C hrT hlk hn hd h1 h2
  have hout : ∀ (k9 : Nat), res = .inr k9 → ∀ (cells9 slots9 pc9 : Nat) (lcs9 : List (Nat × Value)) (st9 : List Value), cells9 ≤ 1 → slots9 ≤ 6 → XO p l e ({ frames := 7, cells := 1, slots := 6, locals := 141 } : Room) s m args below meth c 2 cy D B cells9 slots9 (vx_MQ below (QX cy D B (Sum.map (fun x => some (Value.int x)) id res) σ Y) (XCX cy D B (Sum.map (fun x => some (Value.int x)) id res) σ Y) args s 1 6 (aB B)) pc9 lcs9 st9 σ Y k9 := fun k9 hx9 cells9 slots9 pc9 lcs9 st9 h1 h2 => by rw [hx9]; exact x_out C htab hlk h1 h2
  have hthr : True := trivial
  generalize (vx_MQ below (QX cy D B (Sum.map (fun x => some (Value.int x)) id res) σ Y) (XCX cy D B (Sum.map (fun x => some (Value.int x)) id res) σ Y) args s 1 6 (aB B)) = Q at hret hthr hout ⊢
  obtain ⟨R, hR9⟩ : ∃ R : Room, R = ({ frames := 7, cells := 1, slots := 6, locals := 141 } : Room) := ⟨_, rfl⟩
  rw [← hR9] at hret hout ⊢
  unfold fX5_pays at h
  show X p l e R s m args below meth c 2 cy D B 0 0 Q 0 [(0, .ref (B + oHB)), (1, .int p1)] [] σ Y
  refine x_aload_n C dX5_pays_0 rfl 0 rfl ?_
  refine x_iload_n C dX5_pays_1 rfl 1 rfl ?_
  obtain ⟨q1, hk1, h⟩ := Option.bind_eq_some_iff.mp h
  refine x_callVX C (As := [.int p1]) (rest := []) (cells2 := 1) (slots2 := 6) (lw_g_mk tw_434 rfl) (lw_g_mk tsel_2 rfl) (c_HB) (C1 := "HostelBeds") (T := TX5) (N := 12) (ci := 7) rfl (okX5_checkBooking l hlf cy D B ek p1 σ Y _ hk1) rfl rfl (by rw [hR9]; decide) (lw_g_mk tw_435 rfl) (lw_g_mk tw_1 rfl) (by decide) rfl (lw_g_mk tw_432 rfl) rfl (Nat.le_of_ble_eq_true rfl) dX5_pays_2 (by rw [hR9]; decide) rfl rfl (fun v2 hv3 => ?_) (fun k4 hv5 => ?_)
  · rcases q1 with x2 | e3
    · rw [Sum.elim_inl] at h
      have hv3 : (Sum.inl (none) : Option Value ⊕ Nat) = .inl v2 := hv3
      cases hv3
      refine x_aload_n C dX5_pays_5 rfl 0 rfl ?_
      refine x_get C (C1 := "HostelBeds") (T := TX5) (N := 12) (ci := 7) inXg5 _ (c_HB) rfl 4 (by decide) (lw_g_mk tw_289 rfl) rfl dX5_pays_6 ?_
      refine x_get C (C1 := "HostelBeds$Plan") (T := TX3) (N := 8) (ci := 5) inXg3 _ (c_Pl (by decide)) rfl 4 (by decide) (lw_g_mk tw_261 rfl) rfl dX5_pays_9 ?_
      refine x_iload_n C dX5_pays_12 rfl 1 rfl ?_
      obtain ⟨hg7, h⟩ := gd_some h
      refine x_iald C _ (c_Paid (by decide)) hg7 dX5_pays_13 ?_
      cases h
      exact hret _ rfl _ _ _ _ dX5_pays_14 rfl (by decide) (by decide)
    · cases hv3
  · rcases q1 with x2 | e3
    · cases hv5
    · rw [Sum.elim_inr] at h
      have hv5 : (Sum.inr e3 : Option Value ⊕ Nat) = .inr k4 := hv5
      cases hv5
      cases h
      exact hout _ rfl _ _ _ _ _ (by decide) (by decide)
def fX5_net (σ : Mem) : Option (Int32) := (some ((rI σ 55 0 0) - (rI σ 56 0 0)))
set_option maxHeartbeats 4000000 in
set_option maxRecDepth 100000 in
theorem okX5_net (l : Launch) (cy : Nat → ClassId) (D : va_G) (B : Nat) (ek : EK) (σ : Mem) (Y : va_W) (res : Int32) (h : fX5_net σ = some res) : CT l cy D B ek yX5_net cX5_net 1 (some .int) ({ frames := 0, cells := 0, slots := 0, locals := 0 } : Room) [.ref (B + oHB)] σ Y (some (.int res)) σ Y := by
  refine met_X (own := "HostelBeds") (by decide) rfl (Nat.le_of_ble_eq_true rfl) ?_
  intro p e s m args below meth c C hrT hlk
  have hret : ∀ (pc9 : Nat) (lcs9 : List (Nat × Value)), decode cX5_net pc9 = .ok (.ireturn, 1) → narrow .int (.int res) = .int res → X p l e ({ frames := 0, cells := 0, slots := 0, locals := 0 } : Room) s m args below meth c 1 cy D B 0 0 (MQ below (QR cy D B (some (.int res)) σ Y) args s 0 0 (aB B)) pc9 lcs9 [.int res] σ Y := fun _ _ hd hn => x_zret C hrT hlk hn hd
  generalize (MQ below (QR cy D B (some (.int res)) σ Y) args s 0 0 (aB B)) = Q at hret ⊢
  obtain ⟨R, hR9⟩ : ∃ R : Room, R = ({ frames := 0, cells := 0, slots := 0, locals := 0 } : Room) := ⟨_, rfl⟩
  rw [← hR9] at hret ⊢
  unfold fX5_net at h
  show X p l e R s m args below meth c 1 cy D B 0 0 Q 0 [(0, .ref (B + oHB))] [] σ Y
  refine x_aload_n C dX5_net_0 rfl 0 rfl ?_
  refine x_get C (C1 := "HostelBeds") (T := TX5) (N := 12) (ci := 7) inXg5 _ (c_HB) rfl 4 (by decide) (lw_g_mk tw_289 rfl) rfl dX5_net_1 ?_
  refine x_get C (C1 := "HostelBeds$Plan") (T := TX3) (N := 8) (ci := 5) inXg3 _ (c_Pl (by decide)) rfl 5 (by decide) (lw_g_mk tw_263 rfl) rfl dX5_net_4 ?_
  refine x_aload_n C dX5_net_7 rfl 0 rfl ?_
  refine x_get C (C1 := "HostelBeds") (T := TX5) (N := 12) (ci := 7) inXg5 _ (c_HB) rfl 4 (by decide) (lw_g_mk tw_289 rfl) rfl dX5_net_8 ?_
  refine x_get C (C1 := "HostelBeds$Plan") (T := TX3) (N := 8) (ci := 5) inXg3 _ (c_Pl (by decide)) rfl 6 (by decide) (lw_g_mk tw_265 rfl) rfl dX5_net_11 ?_
  refine x_isub C dX5_net_14 ?_
  cases h
  exact hret _ _ dX5_net_15 rfl
def jX5_addToOdds_33 (a9 : Int32 × Mem) (p2 : UInt64) (t1 : UInt64) : Option ((Int32 × Mem) ⊕ (Mem)) := (gd (inb a9.1 193) (gd (n64 (FP.dsub FP.dconst1 p2)) (gd (n64 (FP.dmul (rD a9.2 0 0 a9.1.toNatClampNeg) (FP.dsub FP.dconst1 p2))) (gd (n64 (FP.dmul t1 p2)) (gd (n64 (FP.dadd (FP.dmul (rD a9.2 0 0 a9.1.toNatClampNeg) (FP.dsub FP.dconst1 p2)) (FP.dmul t1 p2))) (some (.inl (a9.1 + (-1 : Int32), wD a9.2 0 0 a9.1.toNatClampNeg (FP.dadd (FP.dmul (rD a9.2 0 0 a9.1.toNatClampNeg) (FP.dsub FP.dconst1 p2)) (FP.dmul t1 p2))))))))))
def stX5_addToOdds_9 (p1 : Int32) (p2 : UInt64) (a9 : Int32 × Mem) : Option ((Int32 × Mem) ⊕ (Mem)) := (if a9.1 < 0 then (some (.inr a9.2)) else (if a9.1 < p1 then (jX5_addToOdds_33 a9 p2 FP.dconst0) else (gd (inb (a9.1 - p1) 193) (jX5_addToOdds_33 a9 p2 (rD a9.2 0 0 (a9.1 - p1).toNatClampNeg)))))
def fX5_addToOdds (p1 : Int32) (p2 : UInt64) (σ : Mem) : Option (Mem) := ((loop (stX5_addToOdds_9 p1 p2) 5000 ((193 : Int32) - (1 : Int32), σ)).bind fun b9 => (some b9))
set_option maxHeartbeats 4000000 in
set_option maxRecDepth 100000 in
theorem okX5_addToOdds (l : Launch) (cy : Nat → ClassId) (D : va_G) (B : Nat) (ek : EK) (p1 : Int32) (p2 : UInt64) (σ : Mem) (Y : va_W) (res : Mem) (h : fX5_addToOdds p1 p2 σ = some res) : CT l cy D B ek yX5_addToOdds cX5_addToOdds 7 none ({ frames := 0, cells := 0, slots := 0, locals := 0 } : Room) [.ref (B + oHB), .int p1, .double p2] σ Y none res Y := by
  refine met_X (own := "HostelBeds") (by decide) rfl (Nat.le_of_ble_eq_true rfl) ?_
  intro p e s m args below meth c C hrT hlk
  have hret : ∀ (pc9 : Nat) (lcs9 : List (Nat × Value)), decode cX5_addToOdds pc9 = .ok (.return_, 1) → X p l e ({ frames := 0, cells := 0, slots := 0, locals := 0 } : Room) s m args below meth c 7 cy D B 0 0 (MQ below (QR cy D B none res Y) args s 0 0 (aB B)) pc9 lcs9 [] res Y := fun _ _ hd => x_vret C hrT hlk hd
  generalize (MQ below (QR cy D B none res Y) args s 0 0 (aB B)) = Q at hret ⊢
  obtain ⟨R, hR9⟩ : ∃ R : Room, R = ({ frames := 0, cells := 0, slots := 0, locals := 0 } : Room) := ⟨_, rfl⟩
  rw [← hR9] at hret ⊢
  unfold fX5_addToOdds at h
  show X p l e R s m args below meth c 7 cy D B 0 0 Q 0 [(0, .ref (B + oHB)), (1, .int p1), (2, .double p2)] [] σ Y
  refine x_aload_n C dX5_addToOdds_0 rfl 0 rfl ?_
  refine x_get C (C1 := "HostelBeds") (T := TX5) (N := 12) (ci := 7) inXg5 _ (c_HB) rfl 9 (by decide) (lw_g_mk tw_293 rfl) rfl dX5_addToOdds_1 ?_
  refine x_alen C _ 4 (c_Odds) rfl (v := 193) rfl dX5_addToOdds_4 ?_
  refine x_iconst C (v := 1) dX5_addToOdds_5 (by decide) ?_
  refine x_isub C dX5_addToOdds_6 ?_
  refine x_istore C [(4, .int ((193 : Int32) - (1 : Int32))), (0, .ref (B + oHB)), (1, .int p1), (2, .double p2)] dX5_addToOdds_7 (by decide) rfl ?_
  obtain ⟨b9, hk12, h⟩ := Option.bind_eq_some_iff.mp h
  refine x_sub [1, 2, 3, 0] rfl ?_
  refine loop_run (step := stX5_addToOdds_9 p1 p2) (P := fun (a9 : Int32 × Mem) => X p l e R s m args below meth c 7 cy D B 0 0 Q 9 [(0, .ref (B + oHB)), (1, .int p1), (2, .double p2), (4, .int a9.1)] [] a9.2 Y) (K := fun (b9 : Mem) => X p l e R s m args below meth c 7 cy D B 0 0 Q 64 [] [] b9 Y) ?_ 5000 ((193 : Int32) - (1 : Int32), σ) b9 hk12 ?_
  · intro a9 r h hA1 hB2
    unfold stX5_addToOdds_9 at h
    refine x_iload C dX5_addToOdds_9 3 rfl ?_
    refine x_if_lt C (tgt := 64) dX5_addToOdds_11 (by decide) (fun hc3 => ?_) (fun hc3 => ?_)
    · rw [if_pos hc3] at h
      cases h
      refine x_sub [] rfl ?_
      exact hB2 a9.2 rfl
    · rw [if_neg hc3] at h
      refine x_iload C dX5_addToOdds_14 3 rfl ?_
      refine x_iload_n C dX5_addToOdds_16 rfl 1 rfl ?_
      have hJ9 : ∀ (t1 : UInt64) (r9 : (Int32 × Mem) ⊕ (Mem)), jX5_addToOdds_33 a9 p2 t1 = some r9 → (∀ a2, r9 = .inl a2 → (fun (a9 : Int32 × Mem) => X p l e R s m args below meth c 7 cy D B 0 0 Q 9 [(0, .ref (B + oHB)), (1, .int p1), (2, .double p2), (4, .int a9.1)] [] a9.2 Y) a2) → (∀ b2, r9 = .inr b2 → (fun (b9 : Mem) => X p l e R s m args below meth c 7 cy D B 0 0 Q 64 [] [] b9 Y) b2) → X p l e R s m args below meth c 7 cy D B 0 0 Q 33 [(0, .ref (B + oHB)), (1, .int p1), (2, .double p2), (4, .int a9.1)] [.double t1] a9.2 Y := by
        intro t1 r h hA1 hB2
        unfold jX5_addToOdds_33 at h
        refine x_dstore C [(5, .double t1), (0, .ref (B + oHB)), (1, .int p1), (2, .double p2), (4, .int a9.1)] dX5_addToOdds_33 (by decide) rfl ?_
        refine x_aload_n C dX5_addToOdds_35 rfl 1 rfl ?_
        refine x_get C (C1 := "HostelBeds") (T := TX5) (N := 12) (ci := 7) inXg5 _ (c_HB) rfl 9 (by decide) (lw_g_mk tw_293 rfl) rfl dX5_addToOdds_36 ?_
        refine x_iload C dX5_addToOdds_39 4 rfl ?_
        refine x_aload_n C dX5_addToOdds_41 rfl 1 rfl ?_
        refine x_get C (C1 := "HostelBeds") (T := TX5) (N := 12) (ci := 7) inXg5 _ (c_HB) rfl 9 (by decide) (lw_g_mk tw_293 rfl) rfl dX5_addToOdds_42 ?_
        refine x_iload C dX5_addToOdds_45 4 rfl ?_
        obtain ⟨hg4, h⟩ := gd_some h
        refine x_dald C _ (c_Odds) hg4 dX5_addToOdds_47 ?_
        refine x_dconst1 C dX5_addToOdds_48 ?_
        refine x_dload_n C dX5_addToOdds_49 rfl 3 rfl ?_
        obtain ⟨hg5, h⟩ := gd_some h
        refine x_dsub C dX5_addToOdds_50 hg5 ?_
        obtain ⟨hg6, h⟩ := gd_some h
        refine x_dmul C dX5_addToOdds_51 hg6 ?_
        refine x_dload C dX5_addToOdds_52 0 rfl ?_
        refine x_dload_n C dX5_addToOdds_54 rfl 3 rfl ?_
        obtain ⟨hg7, h⟩ := gd_some h
        refine x_dmul C dX5_addToOdds_55 hg7 ?_
        obtain ⟨hg8, h⟩ := gd_some h
        refine x_dadd C dX5_addToOdds_56 hg8 ?_
        refine x_dast C _ (c_Odds) hg4 dX5_addToOdds_57 (s_Odds) ?_
        refine x_iinc C (k := 4) [(4, .int (a9.1 + (-1 : Int32))), (5, .double t1), (0, .ref (B + oHB)), (1, .int p1), (2, .double p2)] dX5_addToOdds_58 rfl rfl (by decide) rfl ?_
        refine x_goto C (tgt := 9) dX5_addToOdds_61 (by decide) ?_
        cases h
        refine x_sub [2, 3, 4, 0] rfl ?_
        exact hA1 (a9.1 + (-1 : Int32), wD a9.2 0 0 a9.1.toNatClampNeg (FP.dadd (FP.dmul (rD a9.2 0 0 a9.1.toNatClampNeg) (FP.dsub FP.dconst1 p2)) (FP.dmul t1 p2))) rfl
      refine x_icmp_lt C (tgt := 32) dX5_addToOdds_17 (by decide) (fun hc10 => ?_) (fun hc10 => ?_)
      · rw [if_pos hc10] at h
        refine x_dconst0 C dX5_addToOdds_32 ?_
        exact hJ9 FP.dconst0 _ h hA1 hB2
      · rw [if_neg hc10] at h
        refine x_aload_n C dX5_addToOdds_20 rfl 0 rfl ?_
        refine x_get C (C1 := "HostelBeds") (T := TX5) (N := 12) (ci := 7) inXg5 _ (c_HB) rfl 9 (by decide) (lw_g_mk tw_293 rfl) rfl dX5_addToOdds_21 ?_
        refine x_iload C dX5_addToOdds_24 3 rfl ?_
        refine x_iload_n C dX5_addToOdds_26 rfl 1 rfl ?_
        refine x_isub C dX5_addToOdds_27 ?_
        obtain ⟨hg11, h⟩ := gd_some h
        refine x_dald C _ (c_Odds) hg11 dX5_addToOdds_28 ?_
        refine x_goto C (tgt := 33) dX5_addToOdds_29 (by decide) ?_
        exact hJ9 (rD a9.2 0 0 (a9.1 - p1).toNatClampNeg) _ h hA1 hB2
  · show X p l e R s m args below meth c 7 cy D B 0 0 Q 64 [] [] b9 Y
    cases h
    exact hret _ _ dX5_addToOdds_64
def stX5_fillOdds_9 (a9 : Int32 × Mem) : Option ((Int32 × Mem) ⊕ (Mem)) := (if (193 : Int32) ≤ a9.1 then (some (.inr a9.2)) else (gd (inb a9.1 193) (some (.inl (a9.1 + (1 : Int32), wD a9.2 0 0 a9.1.toNatClampNeg FP.dconst0)))))
def jX5_fillOdds_87 (a33 : Int32 × Mem) (σ1 : Mem) : Option ((Int32 × Mem) ⊕ (Mem)) := (some (.inl (a33.1 + (1 : Int32), σ1)))
def stX5_fillOdds_33 (p1 : Int32) (a33 : Int32 × Mem) : Option ((Int32 × Mem) ⊕ (Mem)) := (gd (rP a33.2 0 < 12) (if (rI a33.2 22 (rP a33.2 0) 0) ≤ a33.1 then (some (.inr a33.2)) else (gd (inb a33.1 17) (if ¬ (rI a33.2 49 (rP a33.2 0) a33.1.toNatClampNeg) = (1 : Int32) then (jX5_fillOdds_87 a33 a33.2) else ((fX0_staysIn (rP a33.2 0) a33.1.toNatClampNeg p1 a33.2).bind fun q2 => (if q2 = 0 then (jX5_fillOdds_87 a33 a33.2) else (gd (n64 (FP.ddiv (FP.i2d (rI a33.2 46 (rP a33.2 0) a33.1.toNatClampNeg)) (4636737291354636288 : UInt64))) ((fX5_addToOdds (rI a33.2 44 (rP a33.2 0) a33.1.toNatClampNeg) (FP.ddiv (FP.i2d (rI a33.2 46 (rP a33.2 0) a33.1.toNatClampNeg)) (4636737291354636288 : UInt64)) a33.2).bind fun q3 => (jX5_fillOdds_87 a33 q3)))))))))
def fX5_fillOdds (p1 : Int32) (σ : Mem) : Option (Mem) := ((loop (stX5_fillOdds_9) 5000 ((1 : Int32), wD σ 0 0 (0 : Int32).toNatClampNeg FP.dconst1)).bind fun b9 => ((loop (stX5_fillOdds_33 p1) 5000 ((0 : Int32), b9)).bind fun b33 => (some b33)))
set_option maxHeartbeats 4000000 in
set_option maxRecDepth 100000 in
theorem okX5_fillOdds (l : Launch) (cy : Nat → ClassId) (D : va_G) (B : Nat) (ek : EK) (p1 : Int32) (σ : Mem) (Y : va_W) (res : Mem) (h : fX5_fillOdds p1 σ = some res) : CT l cy D B ek yX5_fillOdds cX5_fillOdds 4 none ({ frames := 1, cells := 0, slots := 0, locals := 26 } : Room) [.ref (B + oHB), .int p1] σ Y none res Y := by
  refine met_X (own := "HostelBeds") (by decide) rfl (Nat.le_of_ble_eq_true rfl) ?_
  intro p e s m args below meth c C hrT hlk
  have hret : ∀ (pc9 : Nat) (lcs9 : List (Nat × Value)), decode cX5_fillOdds pc9 = .ok (.return_, 1) → X p l e ({ frames := 1, cells := 0, slots := 0, locals := 26 } : Room) s m args below meth c 4 cy D B 0 0 (MQ below (QR cy D B none res Y) args s 0 0 (aB B)) pc9 lcs9 [] res Y := fun _ _ hd => x_vret C hrT hlk hd
  generalize (MQ below (QR cy D B none res Y) args s 0 0 (aB B)) = Q at hret ⊢
  obtain ⟨R, hR9⟩ : ∃ R : Room, R = ({ frames := 1, cells := 0, slots := 0, locals := 26 } : Room) := ⟨_, rfl⟩
  rw [← hR9] at hret ⊢
  unfold fX5_fillOdds at h
  show X p l e R s m args below meth c 4 cy D B 0 0 Q 0 [(0, .ref (B + oHB)), (1, .int p1)] [] σ Y
  refine x_aload_n C dX5_fillOdds_0 rfl 0 rfl ?_
  refine x_get C (C1 := "HostelBeds") (T := TX5) (N := 12) (ci := 7) inXg5 _ (c_HB) rfl 9 (by decide) (lw_g_mk tw_293 rfl) rfl dX5_fillOdds_1 ?_
  refine x_iconst C (v := 0) dX5_fillOdds_4 (by decide) ?_
  refine x_dconst1 C dX5_fillOdds_5 ?_
  refine x_dast C _ (c_Odds) (by decide : inb (0 : Int32) 193) dX5_fillOdds_6 (s_Odds) ?_
  refine x_iconst C (v := 1) dX5_fillOdds_7 (by decide) ?_
  refine x_istore_n C [(2, .int (1 : Int32)), (0, .ref (B + oHB)), (1, .int p1)] dX5_fillOdds_8 rfl (by decide) rfl ?_
  obtain ⟨b9, hk5, h⟩ := Option.bind_eq_some_iff.mp h
  refine x_sub [1, 2, 0] rfl ?_
  refine loop_run (step := stX5_fillOdds_9) (P := fun (a9 : Int32 × Mem) => X p l e R s m args below meth c 4 cy D B 0 0 Q 9 [(0, .ref (B + oHB)), (1, .int p1), (2, .int a9.1)] [] a9.2 Y) (K := fun (b9 : Mem) => X p l e R s m args below meth c 4 cy D B 0 0 Q 31 [(0, .ref (B + oHB)), (1, .int p1)] [] b9 Y) ?_ 5000 ((1 : Int32), wD σ 0 0 (0 : Int32).toNatClampNeg FP.dconst1) b9 hk5 ?_
  · intro a9 r h hA1 hB2
    unfold stX5_fillOdds_9 at h
    refine x_iload_n C dX5_fillOdds_9 rfl 2 rfl ?_
    refine x_aload_n C dX5_fillOdds_10 rfl 0 rfl ?_
    refine x_get C (C1 := "HostelBeds") (T := TX5) (N := 12) (ci := 7) inXg5 _ (c_HB) rfl 9 (by decide) (lw_g_mk tw_293 rfl) rfl dX5_fillOdds_11 ?_
    refine x_alen C _ 4 (c_Odds) rfl (v := 193) rfl dX5_fillOdds_14 ?_
    refine x_icmp_ge C (tgt := 31) dX5_fillOdds_15 (by decide) (fun hc3 => ?_) (fun hc3 => ?_)
    · rw [if_pos hc3] at h
      cases h
      refine x_sub [0, 1] rfl ?_
      exact hB2 a9.2 rfl
    · rw [if_neg hc3] at h
      refine x_aload_n C dX5_fillOdds_18 rfl 0 rfl ?_
      refine x_get C (C1 := "HostelBeds") (T := TX5) (N := 12) (ci := 7) inXg5 _ (c_HB) rfl 9 (by decide) (lw_g_mk tw_293 rfl) rfl dX5_fillOdds_19 ?_
      refine x_iload_n C dX5_fillOdds_22 rfl 2 rfl ?_
      refine x_dconst0 C dX5_fillOdds_23 ?_
      obtain ⟨hg4, h⟩ := gd_some h
      refine x_dast C _ (c_Odds) hg4 dX5_fillOdds_24 (s_Odds) ?_
      refine x_iinc C (k := 2) [(2, .int (a9.1 + (1 : Int32))), (0, .ref (B + oHB)), (1, .int p1)] dX5_fillOdds_25 rfl rfl (by decide) rfl ?_
      refine x_goto C (tgt := 9) dX5_fillOdds_28 (by decide) ?_
      cases h
      refine x_sub [1, 2, 0] rfl ?_
      exact hA1 (a9.1 + (1 : Int32), wD a9.2 0 0 a9.1.toNatClampNeg FP.dconst0) rfl
  · show X p l e R s m args below meth c 4 cy D B 0 0 Q 31 [(0, .ref (B + oHB)), (1, .int p1)] [] b9 Y
    refine x_iconst C (v := 0) dX5_fillOdds_31 (by decide) ?_
    refine x_istore_n C [(2, .int (0 : Int32)), (0, .ref (B + oHB)), (1, .int p1)] dX5_fillOdds_32 rfl (by decide) rfl ?_
    obtain ⟨b33, hk17, h⟩ := Option.bind_eq_some_iff.mp h
    refine x_sub [1, 2, 0] rfl ?_
    refine loop_run (step := stX5_fillOdds_33 p1) (P := fun (a33 : Int32 × Mem) => X p l e R s m args below meth c 4 cy D B 0 0 Q 33 [(0, .ref (B + oHB)), (1, .int p1), (2, .int a33.1)] [] a33.2 Y) (K := fun (b33 : Mem) => X p l e R s m args below meth c 4 cy D B 0 0 Q 93 [] [] b33 Y) ?_ 5000 ((0 : Int32), b9) b33 hk17 ?_
    · intro a33 r h hA6 hB7
      unfold stX5_fillOdds_33 at h
      refine x_iload_n C dX5_fillOdds_33 rfl 2 rfl ?_
      refine x_aload_n C dX5_fillOdds_34 rfl 0 rfl ?_
      refine x_get C (C1 := "HostelBeds") (T := TX5) (N := 12) (ci := 7) inXg5 _ (c_HB) rfl 2 (by decide) (lw_g_mk tw_287 rfl) rfl dX5_fillOdds_35 ?_
      obtain ⟨hg8, h⟩ := gd_some h
      refine x_get C (C1 := "HostelBeds$Hostel") (T := TX1) (N := 12) (ci := 3) inXg1 _ (c_Ho hg8) rfl 4 (by decide) (lw_g_mk tw_198 rfl) rfl dX5_fillOdds_38 ?_
      refine x_icmp_ge C (tgt := 93) dX5_fillOdds_41 (by decide) (fun hc9 => ?_) (fun hc9 => ?_)
      · rw [if_pos hc9] at h
        cases h
        refine x_sub [] rfl ?_
        exact hB7 a33.2 rfl
      · rw [if_neg hc9] at h
        refine x_aload_n C dX5_fillOdds_44 rfl 0 rfl ?_
        refine x_get C (C1 := "HostelBeds") (T := TX5) (N := 12) (ci := 7) inXg5 _ (c_HB) rfl 2 (by decide) (lw_g_mk tw_287 rfl) rfl dX5_fillOdds_45 ?_
        refine x_get C (C1 := "HostelBeds$Hostel") (T := TX1) (N := 12) (ci := 3) inXg1 _ (c_Ho hg8) rfl 3 (by decide) (lw_g_mk tw_195 rfl) rfl dX5_fillOdds_48 ?_
        refine x_iload_n C dX5_fillOdds_51 rfl 2 rfl ?_
        obtain ⟨hg10, h⟩ := gd_some h
        refine x_aldq C _ 6 (C1 := "HostelBeds$Booking") (c_Bks hg8) rfl hg10 rfl dX5_fillOdds_52 ?_
        refine x_astore_n C [(3, .ref (B + oBk (rP a33.2 0) a33.1.toNatClampNeg)), (0, .ref (B + oHB)), (1, .int p1), (2, .int a33.1)] dX5_fillOdds_53 rfl (by decide) rfl ?_
        refine x_aload_n C dX5_fillOdds_54 rfl 0 rfl ?_
        refine x_get C (C1 := "HostelBeds$Booking") (T := TX0) (N := 11) (ci := 2) inXg0 _ (c_Bk hg8 (inb_lt hg10)) rfl 10 (by decide) (lw_g_mk tw_149 rfl) rfl dX5_fillOdds_55 ?_
        refine x_iconst C (v := 1) dX5_fillOdds_58 (by decide) ?_
        have hJ11 : ∀ (σ1 : Mem) (r9 : (Int32 × Mem) ⊕ (Mem)), jX5_fillOdds_87 a33 σ1 = some r9 → (∀ a2, r9 = .inl a2 → (fun (a33 : Int32 × Mem) => X p l e R s m args below meth c 4 cy D B 0 0 Q 33 [(0, .ref (B + oHB)), (1, .int p1), (2, .int a33.1)] [] a33.2 Y) a2) → (∀ b2, r9 = .inr b2 → (fun (b33 : Mem) => X p l e R s m args below meth c 4 cy D B 0 0 Q 93 [] [] b33 Y) b2) → X p l e R s m args below meth c 4 cy D B 0 0 Q 87 [(0, .ref (B + oHB)), (1, .int p1), (2, .int a33.1)] [] σ1 Y := by
          intro σ1 r h hA6 hB7
          unfold jX5_fillOdds_87 at h
          refine x_iinc C (k := 2) [(2, .int (a33.1 + (1 : Int32))), (0, .ref (B + oHB)), (1, .int p1)] dX5_fillOdds_87 rfl rfl (by decide) rfl ?_
          refine x_goto C (tgt := 33) dX5_fillOdds_90 (by decide) ?_
          cases h
          refine x_sub [1, 2, 0] rfl ?_
          exact hA6 (a33.1 + (1 : Int32), σ1) rfl
        refine x_icmp_ne C (tgt := 87) dX5_fillOdds_59 (by decide) (fun hc12 => ?_) (fun hc12 => ?_)
        · rw [if_pos hc12] at h
          refine x_sub [1, 2, 3] rfl ?_
          exact hJ11 a33.2 _ h hA6 hB7
        · rw [if_neg hc12] at h
          refine x_aload_n C dX5_fillOdds_62 rfl 0 rfl ?_
          refine x_iload_n C dX5_fillOdds_63 rfl 2 rfl ?_
          obtain ⟨q2, hk13, h⟩ := Option.bind_eq_some_iff.mp h
          refine x_callV C (As := [.int p1]) (rest := []) (lw_g_mk tw_651 rfl) (lw_g_mk tw_652 rfl) (c_Bk hg8 (inb_lt hg10)) (C1 := "HostelBeds$Booking") (T := TX0) (N := 11) (ci := 2) rfl (okX0_staysIn l cy D B ek (rP a33.2 0) a33.1.toNatClampNeg p1 a33.2 Y hg8 (inb_lt hg10) _ hk13) rfl rfl (by rw [hR9]; decide) (lw_g_mk tw_653 rfl) (lw_g_mk tw_5 rfl) (by decide) rfl (lw_g_mk tw_1124 rfl) rfl (Nat.le_of_ble_eq_true rfl) dX5_fillOdds_64 (by rw [hR9]; decide) ?_
          refine x_if_eq C (tgt := 87) dX5_fillOdds_67 (by decide) (fun hc14 => ?_) (fun hc14 => ?_)
          · rw [if_pos hc14] at h
            refine x_sub [1, 2, 3] rfl ?_
            exact hJ11 a33.2 _ h hA6 hB7
          · rw [if_neg hc14] at h
            refine x_aload_n C dX5_fillOdds_70 rfl 1 rfl ?_
            refine x_aload_n C dX5_fillOdds_71 rfl 0 rfl ?_
            refine x_get C (C1 := "HostelBeds$Booking") (T := TX0) (N := 11) (ci := 2) inXg0 _ (c_Bk hg8 (inb_lt hg10)) rfl 5 (by decide) (lw_g_mk tw_133 rfl) rfl dX5_fillOdds_72 ?_
            refine x_aload_n C dX5_fillOdds_75 rfl 0 rfl ?_
            refine x_get C (C1 := "HostelBeds$Booking") (T := TX0) (N := 11) (ci := 2) inXg0 _ (c_Bk hg8 (inb_lt hg10)) rfl 7 (by decide) (lw_g_mk tw_138 rfl) rfl dX5_fillOdds_76 ?_
            refine x_i2d C dX5_fillOdds_79 ?_
            refine x_ldc2d C (v := 4636737291354636288) (lw_g_mk tw_1150 rfl) dX5_fillOdds_80 ?_
            obtain ⟨hg15, h⟩ := gd_some h
            refine x_ddiv C dX5_fillOdds_83 hg15 ?_
            obtain ⟨q3, hk16, h⟩ := Option.bind_eq_some_iff.mp h
            refine x_callV C (As := [.int (rI a33.2 44 (rP a33.2 0) a33.1.toNatClampNeg), .double (FP.ddiv (FP.i2d (rI a33.2 46 (rP a33.2 0) a33.1.toNatClampNeg)) (4636737291354636288 : UInt64))]) (rest := []) (lw_g_mk tw_1153 rfl) (lw_g_mk tsel_7 rfl) (c_HB) (C1 := "HostelBeds") (T := TX5) (N := 12) (ci := 7) rfl (okX5_addToOdds l cy D B ek (rI a33.2 44 (rP a33.2 0) a33.1.toNatClampNeg) (FP.ddiv (FP.i2d (rI a33.2 46 (rP a33.2 0) a33.1.toNatClampNeg)) (4636737291354636288 : UInt64)) a33.2 Y _ hk16) rfl rfl (by rw [hR9]; decide) (lw_g_mk tw_1154 rfl) (lw_g_mk tw_1 rfl) (by decide) rfl (lw_g_mk tw_1151 rfl) rfl (Nat.le_of_ble_eq_true rfl) dX5_fillOdds_84 (by rw [hR9]; decide) ?_
            refine x_sub [1, 2, 3] rfl ?_
            exact hJ11 q3 _ h hA6 hB7
    · show X p l e R s m args below meth c 4 cy D B 0 0 Q 93 [] [] b33 Y
      cases h
      exact hret _ _ dX5_fillOdds_93
def jX5_chance_31 (q4 : Mem) : Option ((UInt64 ⊕ Nat) × Mem) := (some (.inl FP.dconst0, q4))
def fX5_chance (p1 : Int32) (p2 : Int32) (σ : Mem) : Option ((UInt64 ⊕ Nat) × Mem) := ((fX5_checkNight p1).bind fun q1 => Sum.elim (fun x2 => ((fX5_fillOdds p1 σ).bind fun q4 => (if p2 < 0 then (jX5_chance_31 q4) else (if (193 : Int32) ≤ p2 then (jX5_chance_31 q4) else (gd (inb p2 193) (some (.inl (rD q4 0 0 p2.toNatClampNeg), q4))))))) (fun e3 => (some (.inr e3, σ))) q1)
set_option maxHeartbeats 4000000 in
set_option maxRecDepth 100000 in
theorem okX5_chance (l : Launch) (hlf : l.stackTraces = false) (cy : Nat → ClassId) (D : va_G) (B : Nat) (ek : EK) (p1 : Int32) (p2 : Int32) (σ : Mem) (Y : va_W) (res : (UInt64 ⊕ Nat) × Mem) (h : fX5_chance p1 p2 σ = some res) : CTX l cy D B ek yX5_chance cX5_chance 3 (some .double) ({ frames := 7, cells := 1, slots := 6, locals := 140 } : Room) 1 6 [.ref (B + oHB), .int p1, .int p2] σ Y (Sum.map (fun x => some (Value.double x)) id res.1) res.2 Y := by
  refine met_XX (own := "HostelBeds") (by decide) rfl (Nat.le_of_ble_eq_true rfl) ?_
  intro p e s m args below meth c C hrT hlk htab
  have hret : ∀ (x9 : UInt64), res.1 = .inl x9 → ∀ (cells9 slots9 pc9 : Nat) (lcs9 : List (Nat × Value)), decode cX5_chance pc9 = .ok (.dreturn, 1) → cells9 ≤ 1 → slots9 ≤ 6 → X p l e ({ frames := 7, cells := 1, slots := 6, locals := 140 } : Room) s m args below meth c 3 cy D B cells9 slots9 (vx_MQ below (QX cy D B (Sum.map (fun x => some (Value.double x)) id res.1) res.2 Y) (XCX cy D B (Sum.map (fun x => some (Value.double x)) id res.1) res.2 Y) args s 1 6 (aB B)) pc9 lcs9 [.double x9] res.2 Y := fun x9 hx9 cells9 slots9 pc9 lcs9 hd h1 h2 => by rw [hx9]; exact x_dretX C hrT hlk hd h1 h2
  have hout : ∀ (k9 : Nat), res.1 = .inr k9 → ∀ (cells9 slots9 pc9 : Nat) (lcs9 : List (Nat × Value)) (st9 : List Value), cells9 ≤ 1 → slots9 ≤ 6 → XO p l e ({ frames := 7, cells := 1, slots := 6, locals := 140 } : Room) s m args below meth c 3 cy D B cells9 slots9 (vx_MQ below (QX cy D B (Sum.map (fun x => some (Value.double x)) id res.1) res.2 Y) (XCX cy D B (Sum.map (fun x => some (Value.double x)) id res.1) res.2 Y) args s 1 6 (aB B)) pc9 lcs9 st9 res.2 Y k9 := fun k9 hx9 cells9 slots9 pc9 lcs9 st9 h1 h2 => by rw [hx9]; exact x_out C htab hlk h1 h2
  have hthr : True := trivial
  generalize (vx_MQ below (QX cy D B (Sum.map (fun x => some (Value.double x)) id res.1) res.2 Y) (XCX cy D B (Sum.map (fun x => some (Value.double x)) id res.1) res.2 Y) args s 1 6 (aB B)) = Q at hret hthr hout ⊢
  obtain ⟨R, hR9⟩ : ∃ R : Room, R = ({ frames := 7, cells := 1, slots := 6, locals := 140 } : Room) := ⟨_, rfl⟩
  rw [← hR9] at hret hout ⊢
  unfold fX5_chance at h
  show X p l e R s m args below meth c 3 cy D B 0 0 Q 0 [(0, .ref (B + oHB)), (1, .int p1), (2, .int p2)] [] σ Y
  refine x_iload_n C dX5_chance_0 rfl 1 rfl ?_
  obtain ⟨q1, hk1, h⟩ := Option.bind_eq_some_iff.mp h
  refine x_callSX C (As := [.int p1]) (rest := []) (cells2 := 1) (slots2 := 6) (lw_g_mk tw_1121 rfl) (okX5_checkNight l hlf cy D B ek p1 σ Y _ hk1) rfl rfl (by rw [hR9]; decide) (lw_g_mk tw_1122 rfl) (lw_g_mk tw_1 rfl) (by decide) rfl (lw_g_mk tw_1120 rfl) rfl (Nat.le_of_ble_eq_true rfl) dX5_chance_1 (by rw [hR9]; decide) rfl rfl (fun v2 hv3 => ?_) (fun k4 hv5 => ?_)
  · rcases q1 with x2 | e3
    · rw [Sum.elim_inl] at h
      have hv3 : (Sum.inl (none) : Option Value ⊕ Nat) = .inl v2 := hv3
      cases hv3
      refine x_aload_n C dX5_chance_4 rfl 0 rfl ?_
      refine x_iload_n C dX5_chance_5 rfl 1 rfl ?_
      obtain ⟨q4, hk7, h⟩ := Option.bind_eq_some_iff.mp h
      refine x_callV C (As := [.int p1]) (rest := []) (lw_g_mk tw_1148 rfl) (lw_g_mk tsel_6 rfl) (c_HB) (C1 := "HostelBeds") (T := TX5) (N := 12) (ci := 7) rfl (okX5_fillOdds l cy D B ek p1 σ Y _ hk7) rfl rfl (by rw [hR9]; decide) (lw_g_mk tw_1149 rfl) (lw_g_mk tw_1 rfl) (by decide) rfl (lw_g_mk tw_1146 rfl) rfl (Nat.le_of_ble_eq_true rfl) dX5_chance_6 (by rw [hR9]; decide) ?_
      refine x_iload_n C dX5_chance_9 rfl 2 rfl ?_
      have hJ8 : ∀ (r9 : (UInt64 ⊕ Nat) × Mem), jX5_chance_31 q4 = some r9 → (∀ (x9 : UInt64), r9.1 = .inl x9 → ∀ (cells9 slots9 pc9 : Nat) (lcs9 : List (Nat × Value)), decode cX5_chance pc9 = .ok (.dreturn, 1) → cells9 ≤ 1 → slots9 ≤ 6 → X p l e R s m args below meth c 3 cy D B cells9 slots9 Q pc9 lcs9 [.double x9] r9.2 Y) → (True) → (∀ (k9 : Nat), r9.1 = .inr k9 → ∀ (cells9 slots9 pc9 : Nat) (lcs9 : List (Nat × Value)) (st9 : List Value), cells9 ≤ 1 → slots9 ≤ 6 → XO p l e R s m args below meth c 3 cy D B cells9 slots9 Q pc9 lcs9 st9 r9.2 Y k9) → X p l e R s m args below meth c 3 cy D B 1 6 Q 31 [] [] q4 Y := by
        intro res9 h hret hthr hout
        unfold jX5_chance_31 at h
        refine x_dconst0 C dX5_chance_31 ?_
        cases h
        exact hret _ rfl _ _ _ _ dX5_chance_32 (by decide) (by decide)
      refine x_if_lt C (tgt := 31) dX5_chance_10 (by decide) (fun hc9 => ?_) (fun hc9 => ?_)
      · rw [if_pos hc9] at h
        refine x_sub [] rfl ?_
        exact hJ8 _ h hret hthr hout
      · rw [if_neg hc9] at h
        refine x_iload_n C dX5_chance_13 rfl 2 rfl ?_
        refine x_aload_n C dX5_chance_14 rfl 0 rfl ?_
        refine x_get C (C1 := "HostelBeds") (T := TX5) (N := 12) (ci := 7) inXg5 _ (c_HB) rfl 9 (by decide) (lw_g_mk tw_293 rfl) rfl dX5_chance_15 ?_
        refine x_alen C _ 4 (c_Odds) rfl (v := 193) rfl dX5_chance_18 ?_
        refine x_icmp_ge C (tgt := 31) dX5_chance_19 (by decide) (fun hc10 => ?_) (fun hc10 => ?_)
        · rw [if_pos hc10] at h
          refine x_sub [] rfl ?_
          exact hJ8 _ h hret hthr hout
        · rw [if_neg hc10] at h
          refine x_aload_n C dX5_chance_22 rfl 0 rfl ?_
          refine x_get C (C1 := "HostelBeds") (T := TX5) (N := 12) (ci := 7) inXg5 _ (c_HB) rfl 9 (by decide) (lw_g_mk tw_293 rfl) rfl dX5_chance_23 ?_
          refine x_iload_n C dX5_chance_26 rfl 2 rfl ?_
          obtain ⟨hg11, h⟩ := gd_some h
          refine x_dald C _ (c_Odds) hg11 dX5_chance_27 ?_
          refine x_goto C (tgt := 32) dX5_chance_28 (by decide) ?_
          cases h
          exact hret _ rfl _ _ _ _ dX5_chance_32 (by decide) (by decide)
    · cases hv3
  · rcases q1 with x2 | e3
    · cases hv5
    · rw [Sum.elim_inr] at h
      have hv5 : (Sum.inr e3 : Option Value ⊕ Nat) = .inr k4 := hv5
      cases hv5
      cases h
      exact hout _ rfl _ _ _ _ _ (by decide) (by decide)
def stX5_risk_22 (q4 : Mem) (a22 : UInt64 × Int32) : Option ((UInt64 × Int32) ⊕ (UInt64)) := (if (193 : Int32) ≤ a22.2 then (some (.inr a22.1)) else (gd (inb a22.2 193) (gd (n64 (FP.dadd a22.1 (rD q4 0 0 a22.2.toNatClampNeg))) (some (.inl (FP.dadd a22.1 (rD q4 0 0 a22.2.toNatClampNeg), a22.2 + (1 : Int32)))))))
def fX5_risk (p1 : Int32) (σ : Mem) : Option ((UInt64 ⊕ Nat) × Mem) := ((fX5_checkNight p1).bind fun q1 => Sum.elim (fun x2 => ((fX5_fillOdds p1 σ).bind fun q4 => (gd (rP q4 0 < 12) ((loop (stX5_risk_22 q4) 5000 (FP.dconst0, (rI q4 21 (rP q4 0) 0) + (1 : Int32))).bind fun b22 => (some (.inl b22, q4)))))) (fun e3 => (some (.inr e3, σ))) q1)
set_option maxHeartbeats 4000000 in
set_option maxRecDepth 100000 in
theorem okX5_risk (l : Launch) (hlf : l.stackTraces = false) (cy : Nat → ClassId) (D : va_G) (B : Nat) (ek : EK) (p1 : Int32) (σ : Mem) (Y : va_W) (res : (UInt64 ⊕ Nat) × Mem) (h : fX5_risk p1 σ = some res) : CTX l cy D B ek yX5_risk cX5_risk 5 (some .double) ({ frames := 7, cells := 1, slots := 6, locals := 140 } : Room) 1 6 [.ref (B + oHB), .int p1] σ Y (Sum.map (fun x => some (Value.double x)) id res.1) res.2 Y := by
  refine met_XX (own := "HostelBeds") (by decide) rfl (Nat.le_of_ble_eq_true rfl) ?_
  intro p e s m args below meth c C hrT hlk htab
  have hret : ∀ (x9 : UInt64), res.1 = .inl x9 → ∀ (cells9 slots9 pc9 : Nat) (lcs9 : List (Nat × Value)), decode cX5_risk pc9 = .ok (.dreturn, 1) → cells9 ≤ 1 → slots9 ≤ 6 → X p l e ({ frames := 7, cells := 1, slots := 6, locals := 140 } : Room) s m args below meth c 5 cy D B cells9 slots9 (vx_MQ below (QX cy D B (Sum.map (fun x => some (Value.double x)) id res.1) res.2 Y) (XCX cy D B (Sum.map (fun x => some (Value.double x)) id res.1) res.2 Y) args s 1 6 (aB B)) pc9 lcs9 [.double x9] res.2 Y := fun x9 hx9 cells9 slots9 pc9 lcs9 hd h1 h2 => by rw [hx9]; exact x_dretX C hrT hlk hd h1 h2
  have hout : ∀ (k9 : Nat), res.1 = .inr k9 → ∀ (cells9 slots9 pc9 : Nat) (lcs9 : List (Nat × Value)) (st9 : List Value), cells9 ≤ 1 → slots9 ≤ 6 → XO p l e ({ frames := 7, cells := 1, slots := 6, locals := 140 } : Room) s m args below meth c 5 cy D B cells9 slots9 (vx_MQ below (QX cy D B (Sum.map (fun x => some (Value.double x)) id res.1) res.2 Y) (XCX cy D B (Sum.map (fun x => some (Value.double x)) id res.1) res.2 Y) args s 1 6 (aB B)) pc9 lcs9 st9 res.2 Y k9 := fun k9 hx9 cells9 slots9 pc9 lcs9 st9 h1 h2 => by rw [hx9]; exact x_out C htab hlk h1 h2
  have hthr : True := trivial
  generalize (vx_MQ below (QX cy D B (Sum.map (fun x => some (Value.double x)) id res.1) res.2 Y) (XCX cy D B (Sum.map (fun x => some (Value.double x)) id res.1) res.2 Y) args s 1 6 (aB B)) = Q at hret hthr hout ⊢
  obtain ⟨R, hR9⟩ : ∃ R : Room, R = ({ frames := 7, cells := 1, slots := 6, locals := 140 } : Room) := ⟨_, rfl⟩
  rw [← hR9] at hret hout ⊢
  unfold fX5_risk at h
  show X p l e R s m args below meth c 5 cy D B 0 0 Q 0 [(0, .ref (B + oHB)), (1, .int p1)] [] σ Y
  refine x_iload_n C dX5_risk_0 rfl 1 rfl ?_
  obtain ⟨q1, hk1, h⟩ := Option.bind_eq_some_iff.mp h
  refine x_callSX C (As := [.int p1]) (rest := []) (cells2 := 1) (slots2 := 6) (lw_g_mk tw_1121 rfl) (okX5_checkNight l hlf cy D B ek p1 σ Y _ hk1) rfl rfl (by rw [hR9]; decide) (lw_g_mk tw_1122 rfl) (lw_g_mk tw_1 rfl) (by decide) rfl (lw_g_mk tw_1120 rfl) rfl (Nat.le_of_ble_eq_true rfl) dX5_risk_1 (by rw [hR9]; decide) rfl rfl (fun v2 hv3 => ?_) (fun k4 hv5 => ?_)
  · rcases q1 with x2 | e3
    · rw [Sum.elim_inl] at h
      have hv3 : (Sum.inl (none) : Option Value ⊕ Nat) = .inl v2 := hv3
      cases hv3
      refine x_aload_n C dX5_risk_4 rfl 0 rfl ?_
      refine x_iload_n C dX5_risk_5 rfl 1 rfl ?_
      obtain ⟨q4, hk7, h⟩ := Option.bind_eq_some_iff.mp h
      refine x_callV C (As := [.int p1]) (rest := []) (lw_g_mk tw_1148 rfl) (lw_g_mk tsel_6 rfl) (c_HB) (C1 := "HostelBeds") (T := TX5) (N := 12) (ci := 7) rfl (okX5_fillOdds l cy D B ek p1 σ Y _ hk7) rfl rfl (by rw [hR9]; decide) (lw_g_mk tw_1149 rfl) (lw_g_mk tw_1 rfl) (by decide) rfl (lw_g_mk tw_1146 rfl) rfl (Nat.le_of_ble_eq_true rfl) dX5_risk_6 (by rw [hR9]; decide) ?_
      refine x_dconst0 C dX5_risk_9 ?_
      refine x_dstore_n C [(2, .double FP.dconst0), (0, .ref (B + oHB)), (1, .int p1)] dX5_risk_10 rfl (by decide) rfl ?_
      refine x_aload_n C dX5_risk_11 rfl 1 rfl ?_
      refine x_get C (C1 := "HostelBeds") (T := TX5) (N := 12) (ci := 7) inXg5 _ (c_HB) rfl 2 (by decide) (lw_g_mk tw_287 rfl) rfl dX5_risk_12 ?_
      obtain ⟨hg8, h⟩ := gd_some h
      refine x_get C (C1 := "HostelBeds$Hostel") (T := TX1) (N := 12) (ci := 3) inXg1 _ (c_Ho hg8) rfl 2 (by decide) (lw_g_mk tw_191 rfl) rfl dX5_risk_15 ?_
      refine x_iconst C (v := 1) dX5_risk_18 (by decide) ?_
      refine x_iadd C dX5_risk_19 ?_
      refine x_istore C [(4, .int ((rI q4 21 (rP q4 0) 0) + (1 : Int32))), (2, .double FP.dconst0), (0, .ref (B + oHB)), (1, .int p1)] dX5_risk_20 (by decide) rfl ?_
      obtain ⟨b22, hk14, h⟩ := Option.bind_eq_some_iff.mp h
      refine x_sub [2, 1, 0] rfl ?_
      refine loop_run (step := stX5_risk_22 q4) (P := fun (a22 : UInt64 × Int32) => X p l e R s m args below meth c 5 cy D B 1 6 Q 22 [(0, .ref (B + oHB)), (2, .double a22.1), (4, .int a22.2)] [] q4 Y) (K := fun (b22 : UInt64) => X p l e R s m args below meth c 5 cy D B 1 6 Q 48 [(2, .double b22)] [] q4 Y) ?_ 5000 (FP.dconst0, (rI q4 21 (rP q4 0) 0) + (1 : Int32)) b22 hk14 ?_
      · intro a22 r h hA9 hB10
        unfold stX5_risk_22 at h
        refine x_iload C dX5_risk_22 2 rfl ?_
        refine x_aload_n C dX5_risk_24 rfl 0 rfl ?_
        refine x_get C (C1 := "HostelBeds") (T := TX5) (N := 12) (ci := 7) inXg5 _ (c_HB) rfl 9 (by decide) (lw_g_mk tw_293 rfl) rfl dX5_risk_25 ?_
        refine x_alen C _ 4 (c_Odds) rfl (v := 193) rfl dX5_risk_28 ?_
        refine x_icmp_ge C (tgt := 48) dX5_risk_29 (by decide) (fun hc11 => ?_) (fun hc11 => ?_)
        · rw [if_pos hc11] at h
          cases h
          refine x_sub [1] rfl ?_
          exact hB10 a22.1 rfl
        · rw [if_neg hc11] at h
          refine x_dload_n C dX5_risk_32 rfl 1 rfl ?_
          refine x_aload_n C dX5_risk_33 rfl 0 rfl ?_
          refine x_get C (C1 := "HostelBeds") (T := TX5) (N := 12) (ci := 7) inXg5 _ (c_HB) rfl 9 (by decide) (lw_g_mk tw_293 rfl) rfl dX5_risk_34 ?_
          refine x_iload C dX5_risk_37 2 rfl ?_
          obtain ⟨hg12, h⟩ := gd_some h
          refine x_dald C _ (c_Odds) hg12 dX5_risk_39 ?_
          obtain ⟨hg13, h⟩ := gd_some h
          refine x_dadd C dX5_risk_40 hg13 ?_
          refine x_dstore_n C [(2, .double (FP.dadd a22.1 (rD q4 0 0 a22.2.toNatClampNeg))), (0, .ref (B + oHB)), (4, .int a22.2)] dX5_risk_41 rfl (by decide) rfl ?_
          refine x_iinc C (k := 2) [(4, .int (a22.2 + (1 : Int32))), (2, .double (FP.dadd a22.1 (rD q4 0 0 a22.2.toNatClampNeg))), (0, .ref (B + oHB))] dX5_risk_42 rfl rfl (by decide) rfl ?_
          refine x_goto C (tgt := 22) dX5_risk_45 (by decide) ?_
          cases h
          refine x_sub [2, 1, 0] rfl ?_
          exact hA9 (FP.dadd a22.1 (rD q4 0 0 a22.2.toNatClampNeg), a22.2 + (1 : Int32)) rfl
      · show X p l e R s m args below meth c 5 cy D B 1 6 Q 48 [(2, .double b22)] [] q4 Y
        refine x_dload_n C dX5_risk_48 rfl 0 rfl ?_
        cases h
        exact hret _ rfl _ _ _ _ dX5_risk_49 (by decide) (by decide)
    · cases hv3
  · rcases q1 with x2 | e3
    · cases hv5
    · rw [Sum.elim_inr] at h
      have hv5 : (Sum.inr e3 : Option Value ⊕ Nat) = .inr k4 := hv5
      cases hv5
      cases h
      exact hout _ rfl _ _ _ _ _ (by decide) (by decide)
def stX5_expectedWalks_22 (q4 : Mem) (a22 : UInt64 × Int32) : Option ((UInt64 × Int32) ⊕ (UInt64)) := (if (193 : Int32) ≤ a22.2 then (some (.inr a22.1)) else (gd (inb a22.2 193) (gd (n64 (FP.dmul (FP.i2d (a22.2 - (rI q4 21 (rP q4 0) 0))) (rD q4 0 0 a22.2.toNatClampNeg))) (gd (n64 (FP.dadd a22.1 (FP.dmul (FP.i2d (a22.2 - (rI q4 21 (rP q4 0) 0))) (rD q4 0 0 a22.2.toNatClampNeg)))) (some (.inl (FP.dadd a22.1 (FP.dmul (FP.i2d (a22.2 - (rI q4 21 (rP q4 0) 0))) (rD q4 0 0 a22.2.toNatClampNeg)), a22.2 + (1 : Int32))))))))
def fX5_expectedWalks (p1 : Int32) (σ : Mem) : Option ((UInt64 ⊕ Nat) × Mem) := ((fX5_checkNight p1).bind fun q1 => Sum.elim (fun x2 => ((fX5_fillOdds p1 σ).bind fun q4 => (gd (rP q4 0 < 12) ((loop (stX5_expectedWalks_22 q4) 5000 (FP.dconst0, (rI q4 21 (rP q4 0) 0) + (1 : Int32))).bind fun b22 => (some (.inl b22, q4)))))) (fun e3 => (some (.inr e3, σ))) q1)
set_option maxHeartbeats 4000000 in
set_option maxRecDepth 100000 in
theorem okX5_expectedWalks (l : Launch) (hlf : l.stackTraces = false) (cy : Nat → ClassId) (D : va_G) (B : Nat) (ek : EK) (p1 : Int32) (σ : Mem) (Y : va_W) (res : (UInt64 ⊕ Nat) × Mem) (h : fX5_expectedWalks p1 σ = some res) : CTX l cy D B ek yX5_expectedWalks cX5_expectedWalks 5 (some .double) ({ frames := 7, cells := 1, slots := 6, locals := 140 } : Room) 1 6 [.ref (B + oHB), .int p1] σ Y (Sum.map (fun x => some (Value.double x)) id res.1) res.2 Y := by
  refine met_XX (own := "HostelBeds") (by decide) rfl (Nat.le_of_ble_eq_true rfl) ?_
  intro p e s m args below meth c C hrT hlk htab
  have hret : ∀ (x9 : UInt64), res.1 = .inl x9 → ∀ (cells9 slots9 pc9 : Nat) (lcs9 : List (Nat × Value)), decode cX5_expectedWalks pc9 = .ok (.dreturn, 1) → cells9 ≤ 1 → slots9 ≤ 6 → X p l e ({ frames := 7, cells := 1, slots := 6, locals := 140 } : Room) s m args below meth c 5 cy D B cells9 slots9 (vx_MQ below (QX cy D B (Sum.map (fun x => some (Value.double x)) id res.1) res.2 Y) (XCX cy D B (Sum.map (fun x => some (Value.double x)) id res.1) res.2 Y) args s 1 6 (aB B)) pc9 lcs9 [.double x9] res.2 Y := fun x9 hx9 cells9 slots9 pc9 lcs9 hd h1 h2 => by rw [hx9]; exact x_dretX C hrT hlk hd h1 h2
  have hout : ∀ (k9 : Nat), res.1 = .inr k9 → ∀ (cells9 slots9 pc9 : Nat) (lcs9 : List (Nat × Value)) (st9 : List Value), cells9 ≤ 1 → slots9 ≤ 6 → XO p l e ({ frames := 7, cells := 1, slots := 6, locals := 140 } : Room) s m args below meth c 5 cy D B cells9 slots9 (vx_MQ below (QX cy D B (Sum.map (fun x => some (Value.double x)) id res.1) res.2 Y) (XCX cy D B (Sum.map (fun x => some (Value.double x)) id res.1) res.2 Y) args s 1 6 (aB B)) pc9 lcs9 st9 res.2 Y k9 := fun k9 hx9 cells9 slots9 pc9 lcs9 st9 h1 h2 => by rw [hx9]; exact x_out C htab hlk h1 h2
  have hthr : True := trivial
  generalize (vx_MQ below (QX cy D B (Sum.map (fun x => some (Value.double x)) id res.1) res.2 Y) (XCX cy D B (Sum.map (fun x => some (Value.double x)) id res.1) res.2 Y) args s 1 6 (aB B)) = Q at hret hthr hout ⊢
  obtain ⟨R, hR9⟩ : ∃ R : Room, R = ({ frames := 7, cells := 1, slots := 6, locals := 140 } : Room) := ⟨_, rfl⟩
  rw [← hR9] at hret hout ⊢
  unfold fX5_expectedWalks at h
  show X p l e R s m args below meth c 5 cy D B 0 0 Q 0 [(0, .ref (B + oHB)), (1, .int p1)] [] σ Y
  refine x_iload_n C dX5_expectedWalks_0 rfl 1 rfl ?_
  obtain ⟨q1, hk1, h⟩ := Option.bind_eq_some_iff.mp h
  refine x_callSX C (As := [.int p1]) (rest := []) (cells2 := 1) (slots2 := 6) (lw_g_mk tw_1121 rfl) (okX5_checkNight l hlf cy D B ek p1 σ Y _ hk1) rfl rfl (by rw [hR9]; decide) (lw_g_mk tw_1122 rfl) (lw_g_mk tw_1 rfl) (by decide) rfl (lw_g_mk tw_1120 rfl) rfl (Nat.le_of_ble_eq_true rfl) dX5_expectedWalks_1 (by rw [hR9]; decide) rfl rfl (fun v2 hv3 => ?_) (fun k4 hv5 => ?_)
  · rcases q1 with x2 | e3
    · rw [Sum.elim_inl] at h
      have hv3 : (Sum.inl (none) : Option Value ⊕ Nat) = .inl v2 := hv3
      cases hv3
      refine x_aload_n C dX5_expectedWalks_4 rfl 0 rfl ?_
      refine x_iload_n C dX5_expectedWalks_5 rfl 1 rfl ?_
      obtain ⟨q4, hk7, h⟩ := Option.bind_eq_some_iff.mp h
      refine x_callV C (As := [.int p1]) (rest := []) (lw_g_mk tw_1148 rfl) (lw_g_mk tsel_6 rfl) (c_HB) (C1 := "HostelBeds") (T := TX5) (N := 12) (ci := 7) rfl (okX5_fillOdds l cy D B ek p1 σ Y _ hk7) rfl rfl (by rw [hR9]; decide) (lw_g_mk tw_1149 rfl) (lw_g_mk tw_1 rfl) (by decide) rfl (lw_g_mk tw_1146 rfl) rfl (Nat.le_of_ble_eq_true rfl) dX5_expectedWalks_6 (by rw [hR9]; decide) ?_
      refine x_dconst0 C dX5_expectedWalks_9 ?_
      refine x_dstore_n C [(2, .double FP.dconst0), (0, .ref (B + oHB)), (1, .int p1)] dX5_expectedWalks_10 rfl (by decide) rfl ?_
      refine x_aload_n C dX5_expectedWalks_11 rfl 1 rfl ?_
      refine x_get C (C1 := "HostelBeds") (T := TX5) (N := 12) (ci := 7) inXg5 _ (c_HB) rfl 2 (by decide) (lw_g_mk tw_287 rfl) rfl dX5_expectedWalks_12 ?_
      obtain ⟨hg8, h⟩ := gd_some h
      refine x_get C (C1 := "HostelBeds$Hostel") (T := TX1) (N := 12) (ci := 3) inXg1 _ (c_Ho hg8) rfl 2 (by decide) (lw_g_mk tw_191 rfl) rfl dX5_expectedWalks_15 ?_
      refine x_iconst C (v := 1) dX5_expectedWalks_18 (by decide) ?_
      refine x_iadd C dX5_expectedWalks_19 ?_
      refine x_istore C [(4, .int ((rI q4 21 (rP q4 0) 0) + (1 : Int32))), (2, .double FP.dconst0), (0, .ref (B + oHB)), (1, .int p1)] dX5_expectedWalks_20 (by decide) rfl ?_
      obtain ⟨b22, hk15, h⟩ := Option.bind_eq_some_iff.mp h
      refine x_sub [2, 1, 0] rfl ?_
      refine loop_run (step := stX5_expectedWalks_22 q4) (P := fun (a22 : UInt64 × Int32) => X p l e R s m args below meth c 5 cy D B 1 6 Q 22 [(0, .ref (B + oHB)), (2, .double a22.1), (4, .int a22.2)] [] q4 Y) (K := fun (b22 : UInt64) => X p l e R s m args below meth c 5 cy D B 1 6 Q 60 [(2, .double b22)] [] q4 Y) ?_ 5000 (FP.dconst0, (rI q4 21 (rP q4 0) 0) + (1 : Int32)) b22 hk15 ?_
      · intro a22 r h hA9 hB10
        unfold stX5_expectedWalks_22 at h
        refine x_iload C dX5_expectedWalks_22 2 rfl ?_
        refine x_aload_n C dX5_expectedWalks_24 rfl 0 rfl ?_
        refine x_get C (C1 := "HostelBeds") (T := TX5) (N := 12) (ci := 7) inXg5 _ (c_HB) rfl 9 (by decide) (lw_g_mk tw_293 rfl) rfl dX5_expectedWalks_25 ?_
        refine x_alen C _ 4 (c_Odds) rfl (v := 193) rfl dX5_expectedWalks_28 ?_
        refine x_icmp_ge C (tgt := 60) dX5_expectedWalks_29 (by decide) (fun hc11 => ?_) (fun hc11 => ?_)
        · rw [if_pos hc11] at h
          cases h
          refine x_sub [1] rfl ?_
          exact hB10 a22.1 rfl
        · rw [if_neg hc11] at h
          refine x_dload_n C dX5_expectedWalks_32 rfl 1 rfl ?_
          refine x_iload C dX5_expectedWalks_33 2 rfl ?_
          refine x_aload_n C dX5_expectedWalks_35 rfl 0 rfl ?_
          refine x_get C (C1 := "HostelBeds") (T := TX5) (N := 12) (ci := 7) inXg5 _ (c_HB) rfl 2 (by decide) (lw_g_mk tw_287 rfl) rfl dX5_expectedWalks_36 ?_
          refine x_get C (C1 := "HostelBeds$Hostel") (T := TX1) (N := 12) (ci := 3) inXg1 _ (c_Ho hg8) rfl 2 (by decide) (lw_g_mk tw_191 rfl) rfl dX5_expectedWalks_39 ?_
          refine x_isub C dX5_expectedWalks_42 ?_
          refine x_i2d C dX5_expectedWalks_43 ?_
          refine x_aload_n C dX5_expectedWalks_44 rfl 0 rfl ?_
          refine x_get C (C1 := "HostelBeds") (T := TX5) (N := 12) (ci := 7) inXg5 _ (c_HB) rfl 9 (by decide) (lw_g_mk tw_293 rfl) rfl dX5_expectedWalks_45 ?_
          refine x_iload C dX5_expectedWalks_48 2 rfl ?_
          obtain ⟨hg12, h⟩ := gd_some h
          refine x_dald C _ (c_Odds) hg12 dX5_expectedWalks_50 ?_
          obtain ⟨hg13, h⟩ := gd_some h
          refine x_dmul C dX5_expectedWalks_51 hg13 ?_
          obtain ⟨hg14, h⟩ := gd_some h
          refine x_dadd C dX5_expectedWalks_52 hg14 ?_
          refine x_dstore_n C [(2, .double (FP.dadd a22.1 (FP.dmul (FP.i2d (a22.2 - (rI q4 21 (rP q4 0) 0))) (rD q4 0 0 a22.2.toNatClampNeg)))), (0, .ref (B + oHB)), (4, .int a22.2)] dX5_expectedWalks_53 rfl (by decide) rfl ?_
          refine x_iinc C (k := 2) [(4, .int (a22.2 + (1 : Int32))), (2, .double (FP.dadd a22.1 (FP.dmul (FP.i2d (a22.2 - (rI q4 21 (rP q4 0) 0))) (rD q4 0 0 a22.2.toNatClampNeg)))), (0, .ref (B + oHB))] dX5_expectedWalks_54 rfl rfl (by decide) rfl ?_
          refine x_goto C (tgt := 22) dX5_expectedWalks_57 (by decide) ?_
          cases h
          refine x_sub [2, 1, 0] rfl ?_
          exact hA9 (FP.dadd a22.1 (FP.dmul (FP.i2d (a22.2 - (rI q4 21 (rP q4 0) 0))) (rD q4 0 0 a22.2.toNatClampNeg)), a22.2 + (1 : Int32)) rfl
      · show X p l e R s m args below meth c 5 cy D B 1 6 Q 60 [(2, .double b22)] [] q4 Y
        refine x_dload_n C dX5_expectedWalks_60 rfl 0 rfl ?_
        cases h
        exact hret _ rfl _ _ _ _ dX5_expectedWalks_61 (by decide) (by decide)
    · cases hv3
  · rcases q1 with x2 | e3
    · cases hv5
    · rw [Sum.elim_inr] at h
      have hv5 : (Sum.inr e3 : Option Value ⊕ Nat) = .inr k4 := hv5
      cases hv5
      cases h
      exact hout _ rfl _ _ _ _ _ (by decide) (by decide)
