def stX6_occupiedIn_4 (μ : Mem) (p1 : Int32) (a4 : Int32 × Int32) : Option ((Int32 × Int32) ⊕ (Int32)) := ((fX6_get (4 : Int32) μ).bind fun q1 => (if q1 ≤ a4.2 then (some (.inr a4.1)) else ((fX6_roomIs a4.2 (1 : Int32) μ).bind fun q2 => ((fX6_freeIn a4.2 p1 μ).bind fun q3 => (some (.inl (a4.1 + (q2 - q3), a4.2 + (1 : Int32))))))))
def fX6_occupiedIn (p1 : Int32) (μ : Mem) : Option (Int32) := ((loop (stX6_occupiedIn_4 μ p1) 5000 ((0 : Int32), (0 : Int32))).bind fun b4 => (some b4))
set_option maxHeartbeats 4000000 in
set_option maxRecDepth 100000 in
theorem okX6_occupiedIn (l : Launch) (cy : Nat → ClassId) (D : va_G) (B : Nat) (ek : EK) (p1 : Int32) (σ μ ω : Mem) (res : Int32) (h : fX6_occupiedIn p1 μ = some res) : CT l cy D B ek yX6_occupiedIn cX6_occupiedIn 4 (some .int) ({ frames := 3, cells := 0, slots := 0, locals := 67 } : Room) [.ref (B + oMd), .int p1] σ μ ω (some (.int res)) σ μ ω := by
  refine met_X (own := "HostelBedsModel") (by decide) rfl (Nat.le_of_ble_eq_true rfl) ?_
  intro p e s m args below meth c C hrT hlk
  have hret : ∀ (pc9 : Nat) (lcs9 : List (Nat × Value)), decode cX6_occupiedIn pc9 = .ok (.ireturn, 1) → narrow .int (.int res) = .int res → X p l e ({ frames := 3, cells := 0, slots := 0, locals := 67 } : Room) s m args below meth c 4 cy D B 0 0 (MQ below (QR cy D B (some (.int res)) σ μ ω) args s 0 0 (aB B)) pc9 lcs9 [.int res] σ μ ω := fun _ _ hd hn => x_zret C hrT hlk hn hd
  generalize (MQ below (QR cy D B (some (.int res)) σ μ ω) args s 0 0 (aB B)) = Q at hret ⊢
  obtain ⟨R, hR9⟩ : ∃ R : Room, R = ({ frames := 3, cells := 0, slots := 0, locals := 67 } : Room) := ⟨_, rfl⟩
  rw [← hR9] at hret ⊢
  unfold fX6_occupiedIn at h
  show X p l e R s m args below meth c 4 cy D B 0 0 Q 0 [(0, .ref (B + oMd)), (1, .int p1)] [] σ μ ω
  refine x_iconst C (v := 0) dX6_occupiedIn_0 (by decide) ?_
  refine x_istore_n C [(2, .int (0 : Int32)), (0, .ref (B + oMd)), (1, .int p1)] dX6_occupiedIn_1 rfl (by decide) rfl ?_
  refine x_iconst C (v := 0) dX6_occupiedIn_2 (by decide) ?_
  refine x_istore_n C [(3, .int (0 : Int32)), (2, .int (0 : Int32)), (0, .ref (B + oMd)), (1, .int p1)] dX6_occupiedIn_3 rfl (by decide) rfl ?_
  obtain ⟨b4, hk7, h⟩ := Option.bind_eq_some_iff.mp h
  refine x_sub [2, 3, 1, 0] rfl ?_
  refine loop_run (step := stX6_occupiedIn_4 μ p1) (P := fun (a4 : Int32 × Int32) => X p l e R s m args below meth c 4 cy D B 0 0 Q 4 [(0, .ref (B + oMd)), (1, .int p1), (2, .int a4.1), (3, .int a4.2)] [] σ μ ω) (K := fun (b4 : Int32) => X p l e R s m args below meth c 4 cy D B 0 0 Q 35 [(2, .int b4)] [] σ μ ω) ?_ 5000 ((0 : Int32), (0 : Int32)) b4 hk7 ?_
  · intro a4 r h hA1 hB2
    unfold stX6_occupiedIn_4 at h
    refine x_iload_n C dX6_occupiedIn_4 rfl 3 rfl ?_
    refine x_aload_n C dX6_occupiedIn_5 rfl 0 rfl ?_
    refine x_iconst C (v := 4) dX6_occupiedIn_6 (by decide) ?_
    obtain ⟨q1, hk3, h⟩ := Option.bind_eq_some_iff.mp h
    refine x_callV C (As := [.int (4 : Int32)]) (rest := [.int a4.2]) (lw_g_mk tw_1296 rfl) (lw_g_mk tsel_31 rfl) (c_Md) (C1 := "HostelBedsModel") (T := TX6) (N := 27) (ci := 6) rfl (okX6_get l cy D B ek (4 : Int32) σ μ ω _ hk3) rfl rfl (by rw [hR9]; decide) (lw_g_mk tw_1297 rfl) (lw_g_mk tw_7 rfl) (by decide) rfl (lw_g_mk tw_1294 rfl) rfl (Nat.le_of_ble_eq_true rfl) dX6_occupiedIn_7 (by rw [hR9]; decide) ?_
    refine x_icmp_ge C (tgt := 35) dX6_occupiedIn_10 (by decide) (fun hc4 => ?_) (fun hc4 => ?_)
    · rw [if_pos hc4] at h
      cases h
      refine x_sub [2] rfl ?_
      exact hB2 a4.1 rfl
    · rw [if_neg hc4] at h
      refine x_iload_n C dX6_occupiedIn_13 rfl 2 rfl ?_
      refine x_aload_n C dX6_occupiedIn_14 rfl 0 rfl ?_
      refine x_iload_n C dX6_occupiedIn_15 rfl 3 rfl ?_
      refine x_iconst C (v := 1) dX6_occupiedIn_16 (by decide) ?_
      obtain ⟨q2, hk5, h⟩ := Option.bind_eq_some_iff.mp h
      refine x_callV C (As := [.int a4.2, .int (1 : Int32)]) (rest := [.int a4.1]) (lw_g_mk tw_1359 rfl) (lw_g_mk tsel_46 rfl) (c_Md) (C1 := "HostelBedsModel") (T := TX6) (N := 27) (ci := 6) rfl (okX6_roomIs l cy D B ek a4.2 (1 : Int32) σ μ ω _ hk5) rfl rfl (by rw [hR9]; decide) (lw_g_mk tw_1360 rfl) (lw_g_mk tw_7 rfl) (by decide) rfl (lw_g_mk tw_1357 rfl) rfl (Nat.le_of_ble_eq_true rfl) dX6_occupiedIn_17 (by rw [hR9]; decide) ?_
      refine x_aload_n C dX6_occupiedIn_20 rfl 0 rfl ?_
      refine x_iload_n C dX6_occupiedIn_21 rfl 3 rfl ?_
      refine x_iload_n C dX6_occupiedIn_22 rfl 1 rfl ?_
      obtain ⟨q3, hk6, h⟩ := Option.bind_eq_some_iff.mp h
      refine x_callV C (As := [.int a4.2, .int p1]) (rest := [.int q2, .int a4.1]) (lw_g_mk tw_1544 rfl) (lw_g_mk tsel_76 rfl) (c_Md) (C1 := "HostelBedsModel") (T := TX6) (N := 27) (ci := 6) rfl (okX6_freeIn l cy D B ek a4.2 p1 σ μ ω _ hk6) rfl rfl (by rw [hR9]; decide) (lw_g_mk tw_1545 rfl) (lw_g_mk tw_7 rfl) (by decide) rfl (lw_g_mk tw_1542 rfl) rfl (Nat.le_of_ble_eq_true rfl) dX6_occupiedIn_23 (by rw [hR9]; decide) ?_
      refine x_isub C dX6_occupiedIn_26 ?_
      refine x_iadd C dX6_occupiedIn_27 ?_
      refine x_istore_n C [(2, .int (a4.1 + (q2 - q3))), (0, .ref (B + oMd)), (1, .int p1), (3, .int a4.2)] dX6_occupiedIn_28 rfl (by decide) rfl ?_
      refine x_iinc C (k := 3) [(3, .int (a4.2 + (1 : Int32))), (2, .int (a4.1 + (q2 - q3))), (0, .ref (B + oMd)), (1, .int p1)] dX6_occupiedIn_29 rfl rfl (by decide) rfl ?_
      refine x_goto C (tgt := 4) dX6_occupiedIn_32 (by decide) ?_
      cases h
      refine x_sub [2, 3, 1, 0] rfl ?_
      exact hA1 (a4.1 + (q2 - q3), a4.2 + (1 : Int32)) rfl
  · show X p l e R s m args below meth c 4 cy D B 0 0 Q 35 [(2, .int b4)] [] σ μ ω
    refine x_iload_n C dX6_occupiedIn_35 rfl 0 rfl ?_
    cases h
    exact hret _ _ dX6_occupiedIn_36 rfl
def fX6_occupied (p1 : Int32) (μ : Mem) : Option (Int32 × Mem) := ((fX6_isNight p1).bind fun q1 => (if ¬ q1 = 0 then ((fX6_placesAll (wI μ 60 0 0 (0 : Int32))).bind fun q2 => ((fX6_occupiedIn p1 q2).bind fun q3 => (some (q3, q2)))) else ((fX6_fails (1 : Int32) (wI μ 60 0 0 (0 : Int32))).bind fun q4 => (some (q4.1, q4.2)))))
set_option maxHeartbeats 4000000 in
set_option maxRecDepth 100000 in
theorem okX6_occupied (l : Launch) (cy : Nat → ClassId) (D : va_G) (B : Nat) (ek : EK) (p1 : Int32) (σ μ ω : Mem) (res : Int32 × Mem) (h : fX6_occupied p1 μ = some res) : CT l cy D B ek yX6_occupied cX6_occupied 2 (some .int) ({ frames := 8, cells := 0, slots := 0, locals := 185 } : Room) [.ref (B + oMd), .int p1] σ μ ω (some (.int res.1)) σ res.2 ω := by
  refine met_X (own := "HostelBedsModel") (by decide) rfl (Nat.le_of_ble_eq_true rfl) ?_
  intro p e s m args below meth c C hrT hlk
  have hret : ∀ (pc9 : Nat) (lcs9 : List (Nat × Value)), decode cX6_occupied pc9 = .ok (.ireturn, 1) → narrow .int (.int res.1) = .int res.1 → X p l e ({ frames := 8, cells := 0, slots := 0, locals := 185 } : Room) s m args below meth c 2 cy D B 0 0 (MQ below (QR cy D B (some (.int res.1)) σ res.2 ω) args s 0 0 (aB B)) pc9 lcs9 [.int res.1] σ res.2 ω := fun _ _ hd hn => x_zret C hrT hlk hn hd
  generalize (MQ below (QR cy D B (some (.int res.1)) σ res.2 ω) args s 0 0 (aB B)) = Q at hret ⊢
  obtain ⟨R, hR9⟩ : ∃ R : Room, R = ({ frames := 8, cells := 0, slots := 0, locals := 185 } : Room) := ⟨_, rfl⟩
  rw [← hR9] at hret ⊢
  unfold fX6_occupied at h
  show X p l e R s m args below meth c 2 cy D B 0 0 Q 0 [(0, .ref (B + oMd)), (1, .int p1)] [] σ μ ω
  refine x_aload_n C dX6_occupied_0 rfl 0 rfl ?_
  refine x_iconst C (v := 0) dX6_occupied_1 (by decide) ?_
  refine x_put C (C1 := "HostelBedsModel") (T := TX6) (N := 27) (ci := 6) inXg6 tyX6 tyX6_ok nmX6 _ (c_Md) rfl 0 (by decide) (lw_g_mk tw_1131 rfl) rfl rfl rfl rfl (Nat.le_of_ble_eq_true rfl) dX6_occupied_2 (s_Md_thrown) ?_
  refine x_iload_n C dX6_occupied_5 rfl 1 rfl ?_
  obtain ⟨q1, hk1, h⟩ := Option.bind_eq_some_iff.mp h
  refine x_callS C (As := [.int p1]) (rest := []) (lw_g_mk tw_1536 rfl) (okX6_isNight l cy D B ek p1 σ (wI μ 60 0 0 (0 : Int32)) ω _ hk1) rfl rfl (by rw [hR9]; decide) (lw_g_mk tw_1537 rfl) (lw_g_mk tw_7 rfl) (by decide) rfl (lw_g_mk tw_1535 rfl) rfl (Nat.le_of_ble_eq_true rfl) dX6_occupied_6 (by rw [hR9]; decide) ?_
  refine x_if_ne C (tgt := 18) dX6_occupied_9 (by decide) (fun hc2 => ?_) (fun hc2 => ?_)
  · rw [if_pos hc2] at h
    refine x_aload_n C dX6_occupied_18 rfl 0 rfl ?_
    obtain ⟨q2, hk3, h⟩ := Option.bind_eq_some_iff.mp h
    refine x_callV C (As := []) (rest := []) (lw_g_mk tw_1451 rfl) (lw_g_mk tsel_60 rfl) (c_Md) (C1 := "HostelBedsModel") (T := TX6) (N := 27) (ci := 6) rfl (okX6_placesAll l cy D B ek σ (wI μ 60 0 0 (0 : Int32)) ω _ hk3) rfl rfl (by rw [hR9]; decide) (lw_g_mk tw_1452 rfl) (lw_g_mk tw_7 rfl) (by decide) rfl (lw_g_mk tw_1449 rfl) rfl (Nat.le_of_ble_eq_true rfl) dX6_occupied_19 (by rw [hR9]; decide) ?_
    refine x_aload_n C dX6_occupied_22 rfl 0 rfl ?_
    refine x_iload_n C dX6_occupied_23 rfl 1 rfl ?_
    obtain ⟨q3, hk4, h⟩ := Option.bind_eq_some_iff.mp h
    refine x_callV C (As := [.int p1]) (rest := []) (lw_g_mk tw_1552 rfl) (lw_g_mk tsel_77 rfl) (c_Md) (C1 := "HostelBedsModel") (T := TX6) (N := 27) (ci := 6) rfl (okX6_occupiedIn l cy D B ek p1 σ q2 ω _ hk4) rfl rfl (by rw [hR9]; decide) (lw_g_mk tw_1553 rfl) (lw_g_mk tw_7 rfl) (by decide) rfl (lw_g_mk tw_1550 rfl) rfl (Nat.le_of_ble_eq_true rfl) dX6_occupied_24 (by rw [hR9]; decide) ?_
    cases h
    exact hret _ _ dX6_occupied_27 rfl
  · rw [if_neg hc2] at h
    refine x_aload_n C dX6_occupied_12 rfl 0 rfl ?_
    refine x_iconst C (v := 1) dX6_occupied_13 (by decide) ?_
    obtain ⟨q4, hk5, h⟩ := Option.bind_eq_some_iff.mp h
    refine x_callV C (As := [.int (1 : Int32)]) (rest := []) (lw_g_mk tw_1224 rfl) (lw_g_mk tsel_18 rfl) (c_Md) (C1 := "HostelBedsModel") (T := TX6) (N := 27) (ci := 6) rfl (okX6_fails l cy D B ek (1 : Int32) σ (wI μ 60 0 0 (0 : Int32)) ω _ hk5) rfl rfl (by rw [hR9]; decide) (lw_g_mk tw_1225 rfl) (lw_g_mk tw_7 rfl) (by decide) rfl (lw_g_mk tw_1222 rfl) rfl (Nat.le_of_ble_eq_true rfl) dX6_occupied_14 (by rw [hR9]; decide) ?_
    cases h
    exact hret _ _ dX6_occupied_17 rfl
def fX6_booked (p1 : Int32) (μ : Mem) : Option (Int32 × Mem) := ((fX6_isNight p1).bind fun q1 => (if q1 = 0 then ((fX6_fails (1 : Int32) (wI μ 60 0 0 (0 : Int32))).bind fun q2 => (some (q2.1, q2.2))) else ((fX6_bookedIn p1 (wI μ 60 0 0 (0 : Int32))).bind fun q3 => (some (q3, wI μ 60 0 0 (0 : Int32))))))
set_option maxHeartbeats 4000000 in
set_option maxRecDepth 100000 in
theorem okX6_booked (l : Launch) (cy : Nat → ClassId) (D : va_G) (B : Nat) (ek : EK) (p1 : Int32) (σ μ ω : Mem) (res : Int32 × Mem) (h : fX6_booked p1 μ = some res) : CT l cy D B ek yX6_booked cX6_booked 2 (some .int) ({ frames := 4, cells := 0, slots := 0, locals := 88 } : Room) [.ref (B + oMd), .int p1] σ μ ω (some (.int res.1)) σ res.2 ω := by
  refine met_X (own := "HostelBedsModel") (by decide) rfl (Nat.le_of_ble_eq_true rfl) ?_
  intro p e s m args below meth c C hrT hlk
  have hret : ∀ (pc9 : Nat) (lcs9 : List (Nat × Value)), decode cX6_booked pc9 = .ok (.ireturn, 1) → narrow .int (.int res.1) = .int res.1 → X p l e ({ frames := 4, cells := 0, slots := 0, locals := 88 } : Room) s m args below meth c 2 cy D B 0 0 (MQ below (QR cy D B (some (.int res.1)) σ res.2 ω) args s 0 0 (aB B)) pc9 lcs9 [.int res.1] σ res.2 ω := fun _ _ hd hn => x_zret C hrT hlk hn hd
  generalize (MQ below (QR cy D B (some (.int res.1)) σ res.2 ω) args s 0 0 (aB B)) = Q at hret ⊢
  obtain ⟨R, hR9⟩ : ∃ R : Room, R = ({ frames := 4, cells := 0, slots := 0, locals := 88 } : Room) := ⟨_, rfl⟩
  rw [← hR9] at hret ⊢
  unfold fX6_booked at h
  show X p l e R s m args below meth c 2 cy D B 0 0 Q 0 [(0, .ref (B + oMd)), (1, .int p1)] [] σ μ ω
  refine x_aload_n C dX6_booked_0 rfl 0 rfl ?_
  refine x_iconst C (v := 0) dX6_booked_1 (by decide) ?_
  refine x_put C (C1 := "HostelBedsModel") (T := TX6) (N := 27) (ci := 6) inXg6 tyX6 tyX6_ok nmX6 _ (c_Md) rfl 0 (by decide) (lw_g_mk tw_1131 rfl) rfl rfl rfl rfl (Nat.le_of_ble_eq_true rfl) dX6_booked_2 (s_Md_thrown) ?_
  refine x_iload_n C dX6_booked_5 rfl 1 rfl ?_
  obtain ⟨q1, hk1, h⟩ := Option.bind_eq_some_iff.mp h
  refine x_callS C (As := [.int p1]) (rest := []) (lw_g_mk tw_1536 rfl) (okX6_isNight l cy D B ek p1 σ (wI μ 60 0 0 (0 : Int32)) ω _ hk1) rfl rfl (by rw [hR9]; decide) (lw_g_mk tw_1537 rfl) (lw_g_mk tw_7 rfl) (by decide) rfl (lw_g_mk tw_1535 rfl) rfl (Nat.le_of_ble_eq_true rfl) dX6_booked_6 (by rw [hR9]; decide) ?_
  refine x_if_eq C (tgt := 20) dX6_booked_9 (by decide) (fun hc2 => ?_) (fun hc2 => ?_)
  · rw [if_pos hc2] at h
    refine x_aload_n C dX6_booked_20 rfl 0 rfl ?_
    refine x_iconst C (v := 1) dX6_booked_21 (by decide) ?_
    obtain ⟨q2, hk3, h⟩ := Option.bind_eq_some_iff.mp h
    refine x_callV C (As := [.int (1 : Int32)]) (rest := []) (lw_g_mk tw_1224 rfl) (lw_g_mk tsel_18 rfl) (c_Md) (C1 := "HostelBedsModel") (T := TX6) (N := 27) (ci := 6) rfl (okX6_fails l cy D B ek (1 : Int32) σ (wI μ 60 0 0 (0 : Int32)) ω _ hk3) rfl rfl (by rw [hR9]; decide) (lw_g_mk tw_1225 rfl) (lw_g_mk tw_7 rfl) (by decide) rfl (lw_g_mk tw_1222 rfl) rfl (Nat.le_of_ble_eq_true rfl) dX6_booked_22 (by rw [hR9]; decide) ?_
    cases h
    exact hret _ _ dX6_booked_25 rfl
  · rw [if_neg hc2] at h
    refine x_aload_n C dX6_booked_12 rfl 0 rfl ?_
    refine x_iload_n C dX6_booked_13 rfl 1 rfl ?_
    obtain ⟨q3, hk4, h⟩ := Option.bind_eq_some_iff.mp h
    refine x_callV C (As := [.int p1]) (rest := []) (lw_g_mk tw_1371 rfl) (lw_g_mk tsel_49 rfl) (c_Md) (C1 := "HostelBedsModel") (T := TX6) (N := 27) (ci := 6) rfl (okX6_bookedIn l cy D B ek p1 σ (wI μ 60 0 0 (0 : Int32)) ω _ hk4) rfl rfl (by rw [hR9]; decide) (lw_g_mk tw_1372 rfl) (lw_g_mk tw_7 rfl) (by decide) rfl (lw_g_mk tw_1369 rfl) rfl (Nat.le_of_ble_eq_true rfl) dX6_booked_14 (by rw [hR9]; decide) ?_
    refine x_goto C (tgt := 25) dX6_booked_17 (by decide) ?_
    cases h
    exact hret _ _ dX6_booked_25 rfl
def jX6_walkedIn_43 (a4 : Int32 × Int32) (t2 : Int32) : Option ((Int32 × Int32) ⊕ (Int32)) := (some (.inl (a4.1 + t2, a4.2 + (1 : Int32))))
def jX6_walkedIn_42 (a4 : Int32 × Int32) : Option ((Int32 × Int32) ⊕ (Int32)) := (jX6_walkedIn_43 a4 (0 : Int32))
def stX6_walkedIn_4 (μ : Mem) (p1 : Int32) (a4 : Int32 × Int32) : Option ((Int32 × Int32) ⊕ (Int32)) := ((fX6_get (37 : Int32) μ).bind fun q1 => (if q1 ≤ a4.2 then (some (.inr a4.1)) else (gd (inb a4.2 17) (if ¬ (rI μ 77 0 a4.2.toNatClampNeg) = (3 : Int32) then (jX6_walkedIn_42 a4) else ((fX6_staysIn a4.2 p1 μ).bind fun q3 => (if q3 = 0 then (jX6_walkedIn_42 a4) else ((fX6_persons a4.2 μ).bind fun q4 => (jX6_walkedIn_43 a4 q4))))))))
def fX6_walkedIn (p1 : Int32) (μ : Mem) : Option (Int32) := ((loop (stX6_walkedIn_4 μ p1) 5000 ((0 : Int32), (0 : Int32))).bind fun b4 => (some b4))
set_option maxHeartbeats 4000000 in
set_option maxRecDepth 100000 in
theorem okX6_walkedIn (l : Launch) (cy : Nat → ClassId) (D : va_G) (B : Nat) (ek : EK) (p1 : Int32) (σ μ ω : Mem) (res : Int32) (h : fX6_walkedIn p1 μ = some res) : CT l cy D B ek yX6_walkedIn cX6_walkedIn 4 (some .int) ({ frames := 3, cells := 0, slots := 0, locals := 65 } : Room) [.ref (B + oMd), .int p1] σ μ ω (some (.int res)) σ μ ω := by
  refine met_X (own := "HostelBedsModel") (by decide) rfl (Nat.le_of_ble_eq_true rfl) ?_
  intro p e s m args below meth c C hrT hlk
  have hret : ∀ (pc9 : Nat) (lcs9 : List (Nat × Value)), decode cX6_walkedIn pc9 = .ok (.ireturn, 1) → narrow .int (.int res) = .int res → X p l e ({ frames := 3, cells := 0, slots := 0, locals := 65 } : Room) s m args below meth c 4 cy D B 0 0 (MQ below (QR cy D B (some (.int res)) σ μ ω) args s 0 0 (aB B)) pc9 lcs9 [.int res] σ μ ω := fun _ _ hd hn => x_zret C hrT hlk hn hd
  generalize (MQ below (QR cy D B (some (.int res)) σ μ ω) args s 0 0 (aB B)) = Q at hret ⊢
  obtain ⟨R, hR9⟩ : ∃ R : Room, R = ({ frames := 3, cells := 0, slots := 0, locals := 65 } : Room) := ⟨_, rfl⟩
  rw [← hR9] at hret ⊢
  unfold fX6_walkedIn at h
  show X p l e R s m args below meth c 4 cy D B 0 0 Q 0 [(0, .ref (B + oMd)), (1, .int p1)] [] σ μ ω
  refine x_iconst C (v := 0) dX6_walkedIn_0 (by decide) ?_
  refine x_istore_n C [(2, .int (0 : Int32)), (0, .ref (B + oMd)), (1, .int p1)] dX6_walkedIn_1 rfl (by decide) rfl ?_
  refine x_iconst C (v := 0) dX6_walkedIn_2 (by decide) ?_
  refine x_istore_n C [(3, .int (0 : Int32)), (2, .int (0 : Int32)), (0, .ref (B + oMd)), (1, .int p1)] dX6_walkedIn_3 rfl (by decide) rfl ?_
  obtain ⟨b4, hk12, h⟩ := Option.bind_eq_some_iff.mp h
  refine x_sub [2, 3, 1, 0] rfl ?_
  refine loop_run (step := stX6_walkedIn_4 μ p1) (P := fun (a4 : Int32 × Int32) => X p l e R s m args below meth c 4 cy D B 0 0 Q 4 [(0, .ref (B + oMd)), (1, .int p1), (2, .int a4.1), (3, .int a4.2)] [] σ μ ω) (K := fun (b4 : Int32) => X p l e R s m args below meth c 4 cy D B 0 0 Q 51 [(2, .int b4)] [] σ μ ω) ?_ 5000 ((0 : Int32), (0 : Int32)) b4 hk12 ?_
  · intro a4 r h hA1 hB2
    unfold stX6_walkedIn_4 at h
    refine x_iload_n C dX6_walkedIn_4 rfl 3 rfl ?_
    refine x_aload_n C dX6_walkedIn_5 rfl 0 rfl ?_
    refine x_bipush C (v := 37) dX6_walkedIn_6 (by decide) ?_
    obtain ⟨q1, hk3, h⟩ := Option.bind_eq_some_iff.mp h
    refine x_callV C (As := [.int (37 : Int32)]) (rest := [.int a4.2]) (lw_g_mk tw_1296 rfl) (lw_g_mk tsel_31 rfl) (c_Md) (C1 := "HostelBedsModel") (T := TX6) (N := 27) (ci := 6) rfl (okX6_get l cy D B ek (37 : Int32) σ μ ω _ hk3) rfl rfl (by rw [hR9]; decide) (lw_g_mk tw_1297 rfl) (lw_g_mk tw_7 rfl) (by decide) rfl (lw_g_mk tw_1294 rfl) rfl (Nat.le_of_ble_eq_true rfl) dX6_walkedIn_8 (by rw [hR9]; decide) ?_
    refine x_icmp_ge C (tgt := 51) dX6_walkedIn_11 (by decide) (fun hc4 => ?_) (fun hc4 => ?_)
    · rw [if_pos hc4] at h
      cases h
      refine x_sub [2] rfl ?_
      exact hB2 a4.1 rfl
    · rw [if_neg hc4] at h
      refine x_iload_n C dX6_walkedIn_14 rfl 2 rfl ?_
      refine x_aload_n C dX6_walkedIn_15 rfl 0 rfl ?_
      refine x_get C (C1 := "HostelBedsModel") (T := TX6) (N := 27) (ci := 6) inXg6 _ (c_Md) rfl 22 (by decide) (lw_g_mk tw_1153 rfl) rfl dX6_walkedIn_16 ?_
      refine x_iload_n C dX6_walkedIn_19 rfl 3 rfl ?_
      obtain ⟨hg5, h⟩ := gd_some h
      refine x_iald C _ (c_Bec) hg5 dX6_walkedIn_20 ?_
      refine x_iconst C (v := 3) dX6_walkedIn_21 (by decide) ?_
      have hJ6 : ∀ (t2 : Int32) (r9 : (Int32 × Int32) ⊕ (Int32)), jX6_walkedIn_43 a4 t2 = some r9 → (∀ a2, r9 = .inl a2 → (fun (a4 : Int32 × Int32) => X p l e R s m args below meth c 4 cy D B 0 0 Q 4 [(0, .ref (B + oMd)), (1, .int p1), (2, .int a4.1), (3, .int a4.2)] [] σ μ ω) a2) → (∀ b2, r9 = .inr b2 → (fun (b4 : Int32) => X p l e R s m args below meth c 4 cy D B 0 0 Q 51 [(2, .int b4)] [] σ μ ω) b2) → X p l e R s m args below meth c 4 cy D B 0 0 Q 43 [(0, .ref (B + oMd)), (1, .int p1), (3, .int a4.2)] [.int t2, .int a4.1] σ μ ω := by
        intro t2 r h hA1 hB2
        unfold jX6_walkedIn_43 at h
        refine x_iadd C dX6_walkedIn_43 ?_
        refine x_istore_n C [(2, .int (a4.1 + t2)), (0, .ref (B + oMd)), (1, .int p1), (3, .int a4.2)] dX6_walkedIn_44 rfl (by decide) rfl ?_
        refine x_iinc C (k := 3) [(3, .int (a4.2 + (1 : Int32))), (2, .int (a4.1 + t2)), (0, .ref (B + oMd)), (1, .int p1)] dX6_walkedIn_45 rfl rfl (by decide) rfl ?_
        refine x_goto C (tgt := 4) dX6_walkedIn_48 (by decide) ?_
        cases h
        refine x_sub [2, 3, 1, 0] rfl ?_
        exact hA1 (a4.1 + t2, a4.2 + (1 : Int32)) rfl
      have hJ7 : ∀ (r9 : (Int32 × Int32) ⊕ (Int32)), jX6_walkedIn_42 a4 = some r9 → (∀ a2, r9 = .inl a2 → (fun (a4 : Int32 × Int32) => X p l e R s m args below meth c 4 cy D B 0 0 Q 4 [(0, .ref (B + oMd)), (1, .int p1), (2, .int a4.1), (3, .int a4.2)] [] σ μ ω) a2) → (∀ b2, r9 = .inr b2 → (fun (b4 : Int32) => X p l e R s m args below meth c 4 cy D B 0 0 Q 51 [(2, .int b4)] [] σ μ ω) b2) → X p l e R s m args below meth c 4 cy D B 0 0 Q 42 [(0, .ref (B + oMd)), (1, .int p1), (3, .int a4.2)] [.int a4.1] σ μ ω := by
        intro r h hA1 hB2
        unfold jX6_walkedIn_42 at h
        refine x_iconst C (v := 0) dX6_walkedIn_42 (by decide) ?_
        exact hJ6 (0 : Int32) _ h hA1 hB2
      refine x_icmp_ne C (tgt := 42) dX6_walkedIn_22 (by decide) (fun hc8 => ?_) (fun hc8 => ?_)
      · rw [if_pos hc8] at h
        refine x_sub [0, 1, 3] rfl ?_
        exact hJ7 _ h hA1 hB2
      · rw [if_neg hc8] at h
        refine x_aload_n C dX6_walkedIn_25 rfl 0 rfl ?_
        refine x_iload_n C dX6_walkedIn_26 rfl 3 rfl ?_
        refine x_iload_n C dX6_walkedIn_27 rfl 1 rfl ?_
        obtain ⟨q3, hk9, h⟩ := Option.bind_eq_some_iff.mp h
        refine x_callV C (As := [.int a4.2, .int p1]) (rest := [.int a4.1]) (lw_g_mk tw_1363 rfl) (lw_g_mk tsel_47 rfl) (c_Md) (C1 := "HostelBedsModel") (T := TX6) (N := 27) (ci := 6) rfl (okX6_staysIn l cy D B ek a4.2 p1 σ μ ω _ hk9) rfl rfl (by rw [hR9]; decide) (lw_g_mk tw_1364 rfl) (lw_g_mk tw_7 rfl) (by decide) rfl (lw_g_mk tw_1361 rfl) rfl (Nat.le_of_ble_eq_true rfl) dX6_walkedIn_28 (by rw [hR9]; decide) ?_
        refine x_if_eq C (tgt := 42) dX6_walkedIn_31 (by decide) (fun hc10 => ?_) (fun hc10 => ?_)
        · rw [if_pos hc10] at h
          refine x_sub [0, 1, 3] rfl ?_
          exact hJ7 _ h hA1 hB2
        · rw [if_neg hc10] at h
          refine x_aload_n C dX6_walkedIn_34 rfl 0 rfl ?_
          refine x_iload_n C dX6_walkedIn_35 rfl 3 rfl ?_
          obtain ⟨q4, hk11, h⟩ := Option.bind_eq_some_iff.mp h
          refine x_callV C (As := [.int a4.2]) (rest := [.int a4.1]) (lw_g_mk tw_1375 rfl) (lw_g_mk tsel_50 rfl) (c_Md) (C1 := "HostelBedsModel") (T := TX6) (N := 27) (ci := 6) rfl (okX6_persons l cy D B ek a4.2 σ μ ω _ hk11) rfl rfl (by rw [hR9]; decide) (lw_g_mk tw_1376 rfl) (lw_g_mk tw_7 rfl) (by decide) rfl (lw_g_mk tw_1373 rfl) rfl (Nat.le_of_ble_eq_true rfl) dX6_walkedIn_36 (by rw [hR9]; decide) ?_
          refine x_goto C (tgt := 43) dX6_walkedIn_39 (by decide) ?_
          refine x_sub [0, 1, 3] rfl ?_
          exact hJ6 q4 _ h hA1 hB2
  · show X p l e R s m args below meth c 4 cy D B 0 0 Q 51 [(2, .int b4)] [] σ μ ω
    refine x_iload_n C dX6_walkedIn_51 rfl 0 rfl ?_
    cases h
    exact hret _ _ dX6_walkedIn_52 rfl
def fX6_walked (p1 : Int32) (μ : Mem) : Option (Int32 × Mem) := ((fX6_isNight p1).bind fun q1 => (if ¬ q1 = 0 then ((fX6_placesAll (wI μ 60 0 0 (0 : Int32))).bind fun q2 => ((fX6_walkedIn p1 q2).bind fun q3 => (some (q3, q2)))) else ((fX6_fails (1 : Int32) (wI μ 60 0 0 (0 : Int32))).bind fun q4 => (some (q4.1, q4.2)))))
set_option maxHeartbeats 4000000 in
set_option maxRecDepth 100000 in
theorem okX6_walked (l : Launch) (cy : Nat → ClassId) (D : va_G) (B : Nat) (ek : EK) (p1 : Int32) (σ μ ω : Mem) (res : Int32 × Mem) (h : fX6_walked p1 μ = some res) : CT l cy D B ek yX6_walked cX6_walked 2 (some .int) ({ frames := 8, cells := 0, slots := 0, locals := 185 } : Room) [.ref (B + oMd), .int p1] σ μ ω (some (.int res.1)) σ res.2 ω := by
  refine met_X (own := "HostelBedsModel") (by decide) rfl (Nat.le_of_ble_eq_true rfl) ?_
  intro p e s m args below meth c C hrT hlk
  have hret : ∀ (pc9 : Nat) (lcs9 : List (Nat × Value)), decode cX6_walked pc9 = .ok (.ireturn, 1) → narrow .int (.int res.1) = .int res.1 → X p l e ({ frames := 8, cells := 0, slots := 0, locals := 185 } : Room) s m args below meth c 2 cy D B 0 0 (MQ below (QR cy D B (some (.int res.1)) σ res.2 ω) args s 0 0 (aB B)) pc9 lcs9 [.int res.1] σ res.2 ω := fun _ _ hd hn => x_zret C hrT hlk hn hd
  generalize (MQ below (QR cy D B (some (.int res.1)) σ res.2 ω) args s 0 0 (aB B)) = Q at hret ⊢
  obtain ⟨R, hR9⟩ : ∃ R : Room, R = ({ frames := 8, cells := 0, slots := 0, locals := 185 } : Room) := ⟨_, rfl⟩
  rw [← hR9] at hret ⊢
  unfold fX6_walked at h
  show X p l e R s m args below meth c 2 cy D B 0 0 Q 0 [(0, .ref (B + oMd)), (1, .int p1)] [] σ μ ω
  refine x_aload_n C dX6_walked_0 rfl 0 rfl ?_
  refine x_iconst C (v := 0) dX6_walked_1 (by decide) ?_
  refine x_put C (C1 := "HostelBedsModel") (T := TX6) (N := 27) (ci := 6) inXg6 tyX6 tyX6_ok nmX6 _ (c_Md) rfl 0 (by decide) (lw_g_mk tw_1131 rfl) rfl rfl rfl rfl (Nat.le_of_ble_eq_true rfl) dX6_walked_2 (s_Md_thrown) ?_
  refine x_iload_n C dX6_walked_5 rfl 1 rfl ?_
  obtain ⟨q1, hk1, h⟩ := Option.bind_eq_some_iff.mp h
  refine x_callS C (As := [.int p1]) (rest := []) (lw_g_mk tw_1536 rfl) (okX6_isNight l cy D B ek p1 σ (wI μ 60 0 0 (0 : Int32)) ω _ hk1) rfl rfl (by rw [hR9]; decide) (lw_g_mk tw_1537 rfl) (lw_g_mk tw_7 rfl) (by decide) rfl (lw_g_mk tw_1535 rfl) rfl (Nat.le_of_ble_eq_true rfl) dX6_walked_6 (by rw [hR9]; decide) ?_
  refine x_if_ne C (tgt := 18) dX6_walked_9 (by decide) (fun hc2 => ?_) (fun hc2 => ?_)
  · rw [if_pos hc2] at h
    refine x_aload_n C dX6_walked_18 rfl 0 rfl ?_
    obtain ⟨q2, hk3, h⟩ := Option.bind_eq_some_iff.mp h
    refine x_callV C (As := []) (rest := []) (lw_g_mk tw_1451 rfl) (lw_g_mk tsel_60 rfl) (c_Md) (C1 := "HostelBedsModel") (T := TX6) (N := 27) (ci := 6) rfl (okX6_placesAll l cy D B ek σ (wI μ 60 0 0 (0 : Int32)) ω _ hk3) rfl rfl (by rw [hR9]; decide) (lw_g_mk tw_1452 rfl) (lw_g_mk tw_7 rfl) (by decide) rfl (lw_g_mk tw_1449 rfl) rfl (Nat.le_of_ble_eq_true rfl) dX6_walked_19 (by rw [hR9]; decide) ?_
    refine x_aload_n C dX6_walked_22 rfl 0 rfl ?_
    refine x_iload_n C dX6_walked_23 rfl 1 rfl ?_
    obtain ⟨q3, hk4, h⟩ := Option.bind_eq_some_iff.mp h
    refine x_callV C (As := [.int p1]) (rest := []) (lw_g_mk tw_1564 rfl) (lw_g_mk tsel_78 rfl) (c_Md) (C1 := "HostelBedsModel") (T := TX6) (N := 27) (ci := 6) rfl (okX6_walkedIn l cy D B ek p1 σ q2 ω _ hk4) rfl rfl (by rw [hR9]; decide) (lw_g_mk tw_1565 rfl) (lw_g_mk tw_7 rfl) (by decide) rfl (lw_g_mk tw_1562 rfl) rfl (Nat.le_of_ble_eq_true rfl) dX6_walked_24 (by rw [hR9]; decide) ?_
    cases h
    exact hret _ _ dX6_walked_27 rfl
  · rw [if_neg hc2] at h
    refine x_aload_n C dX6_walked_12 rfl 0 rfl ?_
    refine x_iconst C (v := 1) dX6_walked_13 (by decide) ?_
    obtain ⟨q4, hk5, h⟩ := Option.bind_eq_some_iff.mp h
    refine x_callV C (As := [.int (1 : Int32)]) (rest := []) (lw_g_mk tw_1224 rfl) (lw_g_mk tsel_18 rfl) (c_Md) (C1 := "HostelBedsModel") (T := TX6) (N := 27) (ci := 6) rfl (okX6_fails l cy D B ek (1 : Int32) σ (wI μ 60 0 0 (0 : Int32)) ω _ hk5) rfl rfl (by rw [hR9]; decide) (lw_g_mk tw_1225 rfl) (lw_g_mk tw_7 rfl) (by decide) rfl (lw_g_mk tw_1222 rfl) rfl (Nat.le_of_ble_eq_true rfl) dX6_walked_14 (by rw [hR9]; decide) ?_
    cases h
    exact hret _ _ dX6_walked_17 rfl
def jX6_fullNights_45 (a13 : Int32 × Int32) (t3 : Int32) : Option ((Int32 × Int32) ⊕ (Int32)) := (some (.inl (a13.1 + t3, a13.2 + (1 : Int32))))
def jX6_fullNights_44 (a13 : Int32 × Int32) : Option ((Int32 × Int32) ⊕ (Int32)) := (jX6_fullNights_45 a13 (0 : Int32))
def stX6_fullNights_13 (q1 : Mem) (a13 : Int32 × Int32) : Option ((Int32 × Int32) ⊕ (Int32)) := (if (30 : Int32) ≤ a13.2 then (some (.inr a13.1)) else ((fX6_get (4 : Int32) q1).bind fun q2 => (if q2 ≤ 0 then (jX6_fullNights_44 a13) else ((fX6_occupiedIn a13.2 q1).bind fun q4 => ((fX6_allBeds q1).bind fun q5 => (if ¬ q4 = q5 then (jX6_fullNights_44 a13) else (jX6_fullNights_45 a13 (1 : Int32))))))))
def fX6_fullNights (μ : Mem) : Option (Int32 × Mem) := ((fX6_placesAll (wI μ 60 0 0 (0 : Int32))).bind fun q1 => ((loop (stX6_fullNights_13 q1) 5000 ((0 : Int32), (0 : Int32))).bind fun b13 => (some (b13, q1))))
set_option maxHeartbeats 4000000 in
set_option maxRecDepth 100000 in
theorem okX6_fullNights (l : Launch) (cy : Nat → ClassId) (D : va_G) (B : Nat) (ek : EK) (σ μ ω : Mem) (res : Int32 × Mem) (h : fX6_fullNights μ = some res) : CT l cy D B ek yX6_fullNights cX6_fullNights 3 (some .int) ({ frames := 8, cells := 0, slots := 0, locals := 185 } : Room) [.ref (B + oMd)] σ μ ω (some (.int res.1)) σ res.2 ω := by
  refine met_X (own := "HostelBedsModel") (by decide) rfl (Nat.le_of_ble_eq_true rfl) ?_
  intro p e s m args below meth c C hrT hlk
  have hret : ∀ (pc9 : Nat) (lcs9 : List (Nat × Value)), decode cX6_fullNights pc9 = .ok (.ireturn, 1) → narrow .int (.int res.1) = .int res.1 → X p l e ({ frames := 8, cells := 0, slots := 0, locals := 185 } : Room) s m args below meth c 3 cy D B 0 0 (MQ below (QR cy D B (some (.int res.1)) σ res.2 ω) args s 0 0 (aB B)) pc9 lcs9 [.int res.1] σ res.2 ω := fun _ _ hd hn => x_zret C hrT hlk hn hd
  generalize (MQ below (QR cy D B (some (.int res.1)) σ res.2 ω) args s 0 0 (aB B)) = Q at hret ⊢
  obtain ⟨R, hR9⟩ : ∃ R : Room, R = ({ frames := 8, cells := 0, slots := 0, locals := 185 } : Room) := ⟨_, rfl⟩
  rw [← hR9] at hret ⊢
  unfold fX6_fullNights at h
  show X p l e R s m args below meth c 3 cy D B 0 0 Q 0 [(0, .ref (B + oMd))] [] σ μ ω
  refine x_aload_n C dX6_fullNights_0 rfl 0 rfl ?_
  refine x_iconst C (v := 0) dX6_fullNights_1 (by decide) ?_
  refine x_put C (C1 := "HostelBedsModel") (T := TX6) (N := 27) (ci := 6) inXg6 tyX6 tyX6_ok nmX6 _ (c_Md) rfl 0 (by decide) (lw_g_mk tw_1131 rfl) rfl rfl rfl rfl (Nat.le_of_ble_eq_true rfl) dX6_fullNights_2 (s_Md_thrown) ?_
  refine x_aload_n C dX6_fullNights_5 rfl 0 rfl ?_
  obtain ⟨q1, hk1, h⟩ := Option.bind_eq_some_iff.mp h
  refine x_callV C (As := []) (rest := []) (lw_g_mk tw_1451 rfl) (lw_g_mk tsel_60 rfl) (c_Md) (C1 := "HostelBedsModel") (T := TX6) (N := 27) (ci := 6) rfl (okX6_placesAll l cy D B ek σ (wI μ 60 0 0 (0 : Int32)) ω _ hk1) rfl rfl (by rw [hR9]; decide) (lw_g_mk tw_1452 rfl) (lw_g_mk tw_7 rfl) (by decide) rfl (lw_g_mk tw_1449 rfl) rfl (Nat.le_of_ble_eq_true rfl) dX6_fullNights_6 (by rw [hR9]; decide) ?_
  refine x_iconst C (v := 0) dX6_fullNights_9 (by decide) ?_
  refine x_istore_n C [(1, .int (0 : Int32)), (0, .ref (B + oMd))] dX6_fullNights_10 rfl (by decide) rfl ?_
  refine x_iconst C (v := 0) dX6_fullNights_11 (by decide) ?_
  refine x_istore_n C [(2, .int (0 : Int32)), (1, .int (0 : Int32)), (0, .ref (B + oMd))] dX6_fullNights_12 rfl (by decide) rfl ?_
  obtain ⟨b13, hk12, h⟩ := Option.bind_eq_some_iff.mp h
  refine x_sub [2, 1, 0] rfl ?_
  refine loop_run (step := stX6_fullNights_13 q1) (P := fun (a13 : Int32 × Int32) => X p l e R s m args below meth c 3 cy D B 0 0 Q 13 [(0, .ref (B + oMd)), (1, .int a13.1), (2, .int a13.2)] [] σ q1 ω) (K := fun (b13 : Int32) => X p l e R s m args below meth c 3 cy D B 0 0 Q 53 [(1, .int b13)] [] σ q1 ω) ?_ 5000 ((0 : Int32), (0 : Int32)) b13 hk12 ?_
  · intro a13 r h hA2 hB3
    unfold stX6_fullNights_13 at h
    refine x_iload_n C dX6_fullNights_13 rfl 2 rfl ?_
    refine x_bipush C (v := 30) dX6_fullNights_14 (by decide) ?_
    refine x_icmp_ge C (tgt := 53) dX6_fullNights_16 (by decide) (fun hc4 => ?_) (fun hc4 => ?_)
    · rw [if_pos hc4] at h
      cases h
      refine x_sub [1] rfl ?_
      exact hB3 a13.1 rfl
    · rw [if_neg hc4] at h
      refine x_iload_n C dX6_fullNights_19 rfl 1 rfl ?_
      refine x_aload_n C dX6_fullNights_20 rfl 0 rfl ?_
      refine x_iconst C (v := 4) dX6_fullNights_21 (by decide) ?_
      obtain ⟨q2, hk5, h⟩ := Option.bind_eq_some_iff.mp h
      refine x_callV C (As := [.int (4 : Int32)]) (rest := [.int a13.1]) (lw_g_mk tw_1296 rfl) (lw_g_mk tsel_31 rfl) (c_Md) (C1 := "HostelBedsModel") (T := TX6) (N := 27) (ci := 6) rfl (okX6_get l cy D B ek (4 : Int32) σ q1 ω _ hk5) rfl rfl (by rw [hR9]; decide) (lw_g_mk tw_1297 rfl) (lw_g_mk tw_7 rfl) (by decide) rfl (lw_g_mk tw_1294 rfl) rfl (Nat.le_of_ble_eq_true rfl) dX6_fullNights_22 (by rw [hR9]; decide) ?_
      have hJ6 : ∀ (t3 : Int32) (r9 : (Int32 × Int32) ⊕ (Int32)), jX6_fullNights_45 a13 t3 = some r9 → (∀ a2, r9 = .inl a2 → (fun (a13 : Int32 × Int32) => X p l e R s m args below meth c 3 cy D B 0 0 Q 13 [(0, .ref (B + oMd)), (1, .int a13.1), (2, .int a13.2)] [] σ q1 ω) a2) → (∀ b2, r9 = .inr b2 → (fun (b13 : Int32) => X p l e R s m args below meth c 3 cy D B 0 0 Q 53 [(1, .int b13)] [] σ q1 ω) b2) → X p l e R s m args below meth c 3 cy D B 0 0 Q 45 [(0, .ref (B + oMd)), (2, .int a13.2)] [.int t3, .int a13.1] σ q1 ω := by
        intro t3 r h hA2 hB3
        unfold jX6_fullNights_45 at h
        refine x_iadd C dX6_fullNights_45 ?_
        refine x_istore_n C [(1, .int (a13.1 + t3)), (0, .ref (B + oMd)), (2, .int a13.2)] dX6_fullNights_46 rfl (by decide) rfl ?_
        refine x_iinc C (k := 2) [(2, .int (a13.2 + (1 : Int32))), (1, .int (a13.1 + t3)), (0, .ref (B + oMd))] dX6_fullNights_47 rfl rfl (by decide) rfl ?_
        refine x_goto C (tgt := 13) dX6_fullNights_50 (by decide) ?_
        cases h
        refine x_sub [2, 1, 0] rfl ?_
        exact hA2 (a13.1 + t3, a13.2 + (1 : Int32)) rfl
      have hJ7 : ∀ (r9 : (Int32 × Int32) ⊕ (Int32)), jX6_fullNights_44 a13 = some r9 → (∀ a2, r9 = .inl a2 → (fun (a13 : Int32 × Int32) => X p l e R s m args below meth c 3 cy D B 0 0 Q 13 [(0, .ref (B + oMd)), (1, .int a13.1), (2, .int a13.2)] [] σ q1 ω) a2) → (∀ b2, r9 = .inr b2 → (fun (b13 : Int32) => X p l e R s m args below meth c 3 cy D B 0 0 Q 53 [(1, .int b13)] [] σ q1 ω) b2) → X p l e R s m args below meth c 3 cy D B 0 0 Q 44 [(0, .ref (B + oMd)), (2, .int a13.2)] [.int a13.1] σ q1 ω := by
        intro r h hA2 hB3
        unfold jX6_fullNights_44 at h
        refine x_iconst C (v := 0) dX6_fullNights_44 (by decide) ?_
        exact hJ6 (0 : Int32) _ h hA2 hB3
      refine x_if_le C (tgt := 44) dX6_fullNights_25 (by decide) (fun hc8 => ?_) (fun hc8 => ?_)
      · rw [if_pos hc8] at h
        refine x_sub [0, 2] rfl ?_
        exact hJ7 _ h hA2 hB3
      · rw [if_neg hc8] at h
        refine x_aload_n C dX6_fullNights_28 rfl 0 rfl ?_
        refine x_iload_n C dX6_fullNights_29 rfl 2 rfl ?_
        obtain ⟨q4, hk9, h⟩ := Option.bind_eq_some_iff.mp h
        refine x_callV C (As := [.int a13.2]) (rest := [.int a13.1]) (lw_g_mk tw_1552 rfl) (lw_g_mk tsel_77 rfl) (c_Md) (C1 := "HostelBedsModel") (T := TX6) (N := 27) (ci := 6) rfl (okX6_occupiedIn l cy D B ek a13.2 σ q1 ω _ hk9) rfl rfl (by rw [hR9]; decide) (lw_g_mk tw_1553 rfl) (lw_g_mk tw_7 rfl) (by decide) rfl (lw_g_mk tw_1550 rfl) rfl (Nat.le_of_ble_eq_true rfl) dX6_fullNights_30 (by rw [hR9]; decide) ?_
        refine x_aload_n C dX6_fullNights_33 rfl 0 rfl ?_
        obtain ⟨q5, hk10, h⟩ := Option.bind_eq_some_iff.mp h
        refine x_callV C (As := []) (rest := [.int q4, .int a13.1]) (lw_g_mk tw_1355 rfl) (lw_g_mk tsel_45 rfl) (c_Md) (C1 := "HostelBedsModel") (T := TX6) (N := 27) (ci := 6) rfl (okX6_allBeds l cy D B ek σ q1 ω _ hk10) rfl rfl (by rw [hR9]; decide) (lw_g_mk tw_1356 rfl) (lw_g_mk tw_7 rfl) (by decide) rfl (lw_g_mk tw_1353 rfl) rfl (Nat.le_of_ble_eq_true rfl) dX6_fullNights_34 (by rw [hR9]; decide) ?_
        refine x_icmp_ne C (tgt := 44) dX6_fullNights_37 (by decide) (fun hc11 => ?_) (fun hc11 => ?_)
        · rw [if_pos hc11] at h
          refine x_sub [0, 2] rfl ?_
          exact hJ7 _ h hA2 hB3
        · rw [if_neg hc11] at h
          refine x_iconst C (v := 1) dX6_fullNights_40 (by decide) ?_
          refine x_goto C (tgt := 45) dX6_fullNights_41 (by decide) ?_
          refine x_sub [0, 2] rfl ?_
          exact hJ6 (1 : Int32) _ h hA2 hB3
  · show X p l e R s m args below meth c 3 cy D B 0 0 Q 53 [(1, .int b13)] [] σ q1 ω
    refine x_iload_n C dX6_fullNights_53 rfl 0 rfl ?_
    cases h
    exact hret _ _ dX6_fullNights_54 rfl
def jX6_longestFree_74 (t4 : Int32) (a32 : Int32 × Int32 × Int32) (x5 : Int32) : Option ((Int32 × Int32 × Int32) ⊕ (Int32)) := (some (.inl (x5, t4, a32.2.2 + (1 : Int32))))
def jX6_longestFree_63 (a32 : Int32 × Int32 × Int32) (t4 : Int32) : Option ((Int32 × Int32 × Int32) ⊕ (Int32)) := (if t4 ≤ a32.1 then (jX6_longestFree_74 t4 a32 a32.1) else (jX6_longestFree_74 t4 a32 t4))
def stX6_longestFree_32 (p1 : Int32) (p2 : Int32) (q2 : Mem) (a32 : Int32 × Int32 × Int32) : Option ((Int32 × Int32 × Int32) ⊕ (Int32)) := (if (30 : Int32) ≤ a32.2.2 then (some (.inr a32.1)) else ((fX6_spot p1 p2 a32.2.2).bind fun q3 => (gd (inb q3 2400) (if ¬ (rI q2 76 0 q3.toNatClampNeg) = (-1 : Int32) then (jX6_longestFree_63 a32 (0 : Int32)) else (jX6_longestFree_63 a32 (a32.2.1 + (1 : Int32)))))))
def fX6_longestFree (p1 : Int32) (p2 : Int32) (μ : Mem) : Option (Int32 × Mem) := ((fX6_isBed p1 p2 (wI μ 60 0 0 (0 : Int32))).bind fun q1 => (if ¬ q1 = 0 then ((fX6_placesAll (wI μ 60 0 0 (0 : Int32))).bind fun q2 => ((loop (stX6_longestFree_32 p1 p2 q2) 5000 ((0 : Int32), (0 : Int32), (0 : Int32))).bind fun b32 => (some (b32, q2)))) else ((fX6_fails (1 : Int32) (wI μ 60 0 0 (0 : Int32))).bind fun q6 => (some (q6.1, q6.2)))))
set_option maxHeartbeats 4000000 in
set_option maxRecDepth 100000 in
theorem okX6_longestFree (l : Launch) (cy : Nat → ClassId) (D : va_G) (B : Nat) (ek : EK) (p1 : Int32) (p2 : Int32) (σ μ ω : Mem) (res : Int32 × Mem) (h : fX6_longestFree p1 p2 μ = some res) : CT l cy D B ek yX6_longestFree cX6_longestFree 6 (some .int) ({ frames := 8, cells := 0, slots := 0, locals := 185 } : Room) [.ref (B + oMd), .int p1, .int p2] σ μ ω (some (.int res.1)) σ res.2 ω := by
  refine met_X (own := "HostelBedsModel") (by decide) rfl (Nat.le_of_ble_eq_true rfl) ?_
  intro p e s m args below meth c C hrT hlk
  have hret : ∀ (pc9 : Nat) (lcs9 : List (Nat × Value)), decode cX6_longestFree pc9 = .ok (.ireturn, 1) → narrow .int (.int res.1) = .int res.1 → X p l e ({ frames := 8, cells := 0, slots := 0, locals := 185 } : Room) s m args below meth c 6 cy D B 0 0 (MQ below (QR cy D B (some (.int res.1)) σ res.2 ω) args s 0 0 (aB B)) pc9 lcs9 [.int res.1] σ res.2 ω := fun _ _ hd hn => x_zret C hrT hlk hn hd
  generalize (MQ below (QR cy D B (some (.int res.1)) σ res.2 ω) args s 0 0 (aB B)) = Q at hret ⊢
  obtain ⟨R, hR9⟩ : ∃ R : Room, R = ({ frames := 8, cells := 0, slots := 0, locals := 185 } : Room) := ⟨_, rfl⟩
  rw [← hR9] at hret ⊢
  unfold fX6_longestFree at h
  show X p l e R s m args below meth c 6 cy D B 0 0 Q 0 [(0, .ref (B + oMd)), (1, .int p1), (2, .int p2)] [] σ μ ω
  refine x_aload_n C dX6_longestFree_0 rfl 0 rfl ?_
  refine x_iconst C (v := 0) dX6_longestFree_1 (by decide) ?_
  refine x_put C (C1 := "HostelBedsModel") (T := TX6) (N := 27) (ci := 6) inXg6 tyX6 tyX6_ok nmX6 _ (c_Md) rfl 0 (by decide) (lw_g_mk tw_1131 rfl) rfl rfl rfl rfl (Nat.le_of_ble_eq_true rfl) dX6_longestFree_2 (s_Md_thrown) ?_
  refine x_aload_n C dX6_longestFree_5 rfl 0 rfl ?_
  refine x_iload_n C dX6_longestFree_6 rfl 1 rfl ?_
  refine x_iload_n C dX6_longestFree_7 rfl 2 rfl ?_
  obtain ⟨q1, hk1, h⟩ := Option.bind_eq_some_iff.mp h
  refine x_callV C (As := [.int p1, .int p2]) (rest := []) (lw_g_mk tw_1533 rfl) (lw_g_mk tsel_75 rfl) (c_Md) (C1 := "HostelBedsModel") (T := TX6) (N := 27) (ci := 6) rfl (okX6_isBed l cy D B ek p1 p2 σ (wI μ 60 0 0 (0 : Int32)) ω _ hk1) rfl rfl (by rw [hR9]; decide) (lw_g_mk tw_1534 rfl) (lw_g_mk tw_7 rfl) (by decide) rfl (lw_g_mk tw_1531 rfl) rfl (Nat.le_of_ble_eq_true rfl) dX6_longestFree_8 (by rw [hR9]; decide) ?_
  refine x_if_ne C (tgt := 20) dX6_longestFree_11 (by decide) (fun hc2 => ?_) (fun hc2 => ?_)
  · rw [if_pos hc2] at h
    refine x_aload_n C dX6_longestFree_20 rfl 0 rfl ?_
    obtain ⟨q2, hk3, h⟩ := Option.bind_eq_some_iff.mp h
    refine x_callV C (As := []) (rest := []) (lw_g_mk tw_1451 rfl) (lw_g_mk tsel_60 rfl) (c_Md) (C1 := "HostelBedsModel") (T := TX6) (N := 27) (ci := 6) rfl (okX6_placesAll l cy D B ek σ (wI μ 60 0 0 (0 : Int32)) ω _ hk3) rfl rfl (by rw [hR9]; decide) (lw_g_mk tw_1452 rfl) (lw_g_mk tw_7 rfl) (by decide) rfl (lw_g_mk tw_1449 rfl) rfl (Nat.le_of_ble_eq_true rfl) dX6_longestFree_21 (by rw [hR9]; decide) ?_
    refine x_iconst C (v := 0) dX6_longestFree_24 (by decide) ?_
    refine x_istore_n C [(3, .int (0 : Int32)), (0, .ref (B + oMd)), (1, .int p1), (2, .int p2)] dX6_longestFree_25 rfl (by decide) rfl ?_
    refine x_iconst C (v := 0) dX6_longestFree_26 (by decide) ?_
    refine x_istore C [(4, .int (0 : Int32)), (3, .int (0 : Int32)), (0, .ref (B + oMd)), (1, .int p1), (2, .int p2)] dX6_longestFree_27 (by decide) rfl ?_
    refine x_iconst C (v := 0) dX6_longestFree_29 (by decide) ?_
    refine x_istore C [(5, .int (0 : Int32)), (4, .int (0 : Int32)), (3, .int (0 : Int32)), (0, .ref (B + oMd)), (1, .int p1), (2, .int p2)] dX6_longestFree_30 (by decide) rfl ?_
    obtain ⟨b32, hk13, h⟩ := Option.bind_eq_some_iff.mp h
    refine x_sub [3, 4, 5, 2, 1, 0] rfl ?_
    refine loop_run (step := stX6_longestFree_32 p1 p2 q2) (P := fun (a32 : Int32 × Int32 × Int32) => X p l e R s m args below meth c 6 cy D B 0 0 Q 32 [(0, .ref (B + oMd)), (1, .int p1), (2, .int p2), (3, .int a32.1), (4, .int a32.2.1), (5, .int a32.2.2)] [] σ q2 ω) (K := fun (b32 : Int32) => X p l e R s m args below meth c 6 cy D B 0 0 Q 80 [(3, .int b32)] [] σ q2 ω) ?_ 5000 ((0 : Int32), (0 : Int32), (0 : Int32)) b32 hk13 ?_
    · intro a32 r h hA4 hB5
      unfold stX6_longestFree_32 at h
      refine x_iload C dX6_longestFree_32 5 rfl ?_
      refine x_bipush C (v := 30) dX6_longestFree_34 (by decide) ?_
      refine x_icmp_ge C (tgt := 80) dX6_longestFree_36 (by decide) (fun hc6 => ?_) (fun hc6 => ?_)
      · rw [if_pos hc6] at h
        cases h
        refine x_sub [3] rfl ?_
        exact hB5 a32.1 rfl
      · rw [if_neg hc6] at h
        refine x_aload_n C dX6_longestFree_39 rfl 0 rfl ?_
        refine x_get C (C1 := "HostelBedsModel") (T := TX6) (N := 27) (ci := 6) inXg6 _ (c_Md) rfl 21 (by decide) (lw_g_mk tw_1152 rfl) rfl dX6_longestFree_40 ?_
        refine x_iload_n C dX6_longestFree_43 rfl 1 rfl ?_
        refine x_iload_n C dX6_longestFree_44 rfl 2 rfl ?_
        refine x_iload C dX6_longestFree_45 5 rfl ?_
        obtain ⟨q3, hk7, h⟩ := Option.bind_eq_some_iff.mp h
        refine x_callS C (As := [.int p1, .int p2, .int a32.2.2]) (rest := [.ref (B + oHold)]) (lw_g_mk tw_1482 rfl) (okX6_spot l cy D B ek p1 p2 a32.2.2 σ q2 ω _ hk7) rfl rfl (by rw [hR9]; decide) (lw_g_mk tw_1483 rfl) (lw_g_mk tw_7 rfl) (by decide) rfl (lw_g_mk tw_1481 rfl) rfl (Nat.le_of_ble_eq_true rfl) dX6_longestFree_47 (by rw [hR9]; decide) ?_
        obtain ⟨hg8, h⟩ := gd_some h
        refine x_iald C _ (c_Hold) hg8 dX6_longestFree_50 ?_
        refine x_iconst C (v := -1) dX6_longestFree_51 (by decide) ?_
        have hJ11 : ∀ (t4 : Int32) (r9 : (Int32 × Int32 × Int32) ⊕ (Int32)), jX6_longestFree_63 a32 t4 = some r9 → (∀ a2, r9 = .inl a2 → (fun (a32 : Int32 × Int32 × Int32) => X p l e R s m args below meth c 6 cy D B 0 0 Q 32 [(0, .ref (B + oMd)), (1, .int p1), (2, .int p2), (3, .int a32.1), (4, .int a32.2.1), (5, .int a32.2.2)] [] σ q2 ω) a2) → (∀ b2, r9 = .inr b2 → (fun (b32 : Int32) => X p l e R s m args below meth c 6 cy D B 0 0 Q 80 [(3, .int b32)] [] σ q2 ω) b2) → X p l e R s m args below meth c 6 cy D B 0 0 Q 63 [(0, .ref (B + oMd)), (1, .int p1), (2, .int p2), (3, .int a32.1), (5, .int a32.2.2)] [.int t4] σ q2 ω := by
          intro t4 r h hA4 hB5
          unfold jX6_longestFree_63 at h
          refine x_istore C [(4, .int t4), (0, .ref (B + oMd)), (1, .int p1), (2, .int p2), (3, .int a32.1), (5, .int a32.2.2)] dX6_longestFree_63 (by decide) rfl ?_
          refine x_iload C dX6_longestFree_65 0 rfl ?_
          refine x_iload_n C dX6_longestFree_67 rfl 4 rfl ?_
          have hJ9 : ∀ (x5 : Int32) (r9 : (Int32 × Int32 × Int32) ⊕ (Int32)), jX6_longestFree_74 t4 a32 x5 = some r9 → (∀ a2, r9 = .inl a2 → (fun (a32 : Int32 × Int32 × Int32) => X p l e R s m args below meth c 6 cy D B 0 0 Q 32 [(0, .ref (B + oMd)), (1, .int p1), (2, .int p2), (3, .int a32.1), (4, .int a32.2.1), (5, .int a32.2.2)] [] σ q2 ω) a2) → (∀ b2, r9 = .inr b2 → (fun (b32 : Int32) => X p l e R s m args below meth c 6 cy D B 0 0 Q 80 [(3, .int b32)] [] σ q2 ω) b2) → X p l e R s m args below meth c 6 cy D B 0 0 Q 74 [(0, .ref (B + oMd)), (1, .int p1), (2, .int p2), (3, .int x5), (4, .int t4), (5, .int a32.2.2)] [] σ q2 ω := by
            intro x5 r h hA4 hB5
            unfold jX6_longestFree_74 at h
            refine x_iinc C (k := 5) [(5, .int (a32.2.2 + (1 : Int32))), (0, .ref (B + oMd)), (1, .int p1), (2, .int p2), (3, .int x5), (4, .int t4)] dX6_longestFree_74 rfl rfl (by decide) rfl ?_
            refine x_goto C (tgt := 32) dX6_longestFree_77 (by decide) ?_
            cases h
            refine x_sub [1, 2, 3, 4, 5, 0] rfl ?_
            exact hA4 (x5, t4, a32.2.2 + (1 : Int32)) rfl
          refine x_icmp_le C (tgt := 74) dX6_longestFree_68 (by decide) (fun hc10 => ?_) (fun hc10 => ?_)
          · rw [if_pos hc10] at h
            refine x_sub [1, 2, 3, 4, 0, 5] rfl ?_
            exact hJ9 a32.1 _ h hA4 hB5
          · rw [if_neg hc10] at h
            refine x_iload C dX6_longestFree_71 0 rfl ?_
            refine x_istore_n C [(3, .int t4), (4, .int t4), (0, .ref (B + oMd)), (1, .int p1), (2, .int p2), (5, .int a32.2.2)] dX6_longestFree_73 rfl (by decide) rfl ?_
            refine x_sub [2, 3, 4, 0, 1, 5] rfl ?_
            exact hJ9 t4 _ h hA4 hB5
        refine x_icmp_ne C (tgt := 62) dX6_longestFree_52 (by decide) (fun hc12 => ?_) (fun hc12 => ?_)
        · rw [if_pos hc12] at h
          refine x_iconst C (v := 0) dX6_longestFree_62 (by decide) ?_
          refine x_sub [0, 1, 2, 3, 5] rfl ?_
          exact hJ11 (0 : Int32) _ h hA4 hB5
        · rw [if_neg hc12] at h
          refine x_iload C dX6_longestFree_55 4 rfl ?_
          refine x_iconst C (v := 1) dX6_longestFree_57 (by decide) ?_
          refine x_iadd C dX6_longestFree_58 ?_
          refine x_goto C (tgt := 63) dX6_longestFree_59 (by decide) ?_
          refine x_sub [0, 1, 2, 3, 5] rfl ?_
          exact hJ11 (a32.2.1 + (1 : Int32)) _ h hA4 hB5
    · show X p l e R s m args below meth c 6 cy D B 0 0 Q 80 [(3, .int b32)] [] σ q2 ω
      refine x_iload_n C dX6_longestFree_80 rfl 0 rfl ?_
      cases h
      exact hret _ _ dX6_longestFree_81 rfl
  · rw [if_neg hc2] at h
    refine x_aload_n C dX6_longestFree_14 rfl 0 rfl ?_
    refine x_iconst C (v := 1) dX6_longestFree_15 (by decide) ?_
    obtain ⟨q6, hk14, h⟩ := Option.bind_eq_some_iff.mp h
    refine x_callV C (As := [.int (1 : Int32)]) (rest := []) (lw_g_mk tw_1224 rfl) (lw_g_mk tsel_18 rfl) (c_Md) (C1 := "HostelBedsModel") (T := TX6) (N := 27) (ci := 6) rfl (okX6_fails l cy D B ek (1 : Int32) σ (wI μ 60 0 0 (0 : Int32)) ω _ hk14) rfl rfl (by rw [hR9]; decide) (lw_g_mk tw_1225 rfl) (lw_g_mk tw_7 rfl) (by decide) rfl (lw_g_mk tw_1222 rfl) rfl (Nat.le_of_ble_eq_true rfl) dX6_longestFree_16 (by rw [hR9]; decide) ?_
    cases h
    exact hret _ _ dX6_longestFree_19 rfl
def jX6_splits_39 (a13 : Int32 × Int32) (t3 : Int32) : Option ((Int32 × Int32) ⊕ (Int32)) := (some (.inl (a13.1 + t3, a13.2 + (1 : Int32))))
def stX6_splits_13 (q1 : Mem) (a13 : Int32 × Int32) : Option ((Int32 × Int32) ⊕ (Int32)) := ((fX6_get (37 : Int32) q1).bind fun q2 => (if q2 ≤ a13.2 then (some (.inr a13.1)) else (gd (inb a13.2 17) (if ¬ (rI q1 77 0 a13.2.toNatClampNeg) = (2 : Int32) then (jX6_splits_39 a13 (0 : Int32)) else (jX6_splits_39 a13 (1 : Int32))))))
def fX6_splits (μ : Mem) : Option (Int32 × Mem) := ((fX6_placesAll (wI μ 60 0 0 (0 : Int32))).bind fun q1 => ((loop (stX6_splits_13 q1) 5000 ((0 : Int32), (0 : Int32))).bind fun b13 => (some (b13, q1))))
set_option maxHeartbeats 4000000 in
set_option maxRecDepth 100000 in
theorem okX6_splits (l : Launch) (cy : Nat → ClassId) (D : va_G) (B : Nat) (ek : EK) (σ μ ω : Mem) (res : Int32 × Mem) (h : fX6_splits μ = some res) : CT l cy D B ek yX6_splits cX6_splits 3 (some .int) ({ frames := 8, cells := 0, slots := 0, locals := 185 } : Room) [.ref (B + oMd)] σ μ ω (some (.int res.1)) σ res.2 ω := by
  refine met_X (own := "HostelBedsModel") (by decide) rfl (Nat.le_of_ble_eq_true rfl) ?_
  intro p e s m args below meth c C hrT hlk
  have hret : ∀ (pc9 : Nat) (lcs9 : List (Nat × Value)), decode cX6_splits pc9 = .ok (.ireturn, 1) → narrow .int (.int res.1) = .int res.1 → X p l e ({ frames := 8, cells := 0, slots := 0, locals := 185 } : Room) s m args below meth c 3 cy D B 0 0 (MQ below (QR cy D B (some (.int res.1)) σ res.2 ω) args s 0 0 (aB B)) pc9 lcs9 [.int res.1] σ res.2 ω := fun _ _ hd hn => x_zret C hrT hlk hn hd
  generalize (MQ below (QR cy D B (some (.int res.1)) σ res.2 ω) args s 0 0 (aB B)) = Q at hret ⊢
  obtain ⟨R, hR9⟩ : ∃ R : Room, R = ({ frames := 8, cells := 0, slots := 0, locals := 185 } : Room) := ⟨_, rfl⟩
  rw [← hR9] at hret ⊢
  unfold fX6_splits at h
  show X p l e R s m args below meth c 3 cy D B 0 0 Q 0 [(0, .ref (B + oMd))] [] σ μ ω
  refine x_aload_n C dX6_splits_0 rfl 0 rfl ?_
  refine x_iconst C (v := 0) dX6_splits_1 (by decide) ?_
  refine x_put C (C1 := "HostelBedsModel") (T := TX6) (N := 27) (ci := 6) inXg6 tyX6 tyX6_ok nmX6 _ (c_Md) rfl 0 (by decide) (lw_g_mk tw_1131 rfl) rfl rfl rfl rfl (Nat.le_of_ble_eq_true rfl) dX6_splits_2 (s_Md_thrown) ?_
  refine x_aload_n C dX6_splits_5 rfl 0 rfl ?_
  obtain ⟨q1, hk1, h⟩ := Option.bind_eq_some_iff.mp h
  refine x_callV C (As := []) (rest := []) (lw_g_mk tw_1451 rfl) (lw_g_mk tsel_60 rfl) (c_Md) (C1 := "HostelBedsModel") (T := TX6) (N := 27) (ci := 6) rfl (okX6_placesAll l cy D B ek σ (wI μ 60 0 0 (0 : Int32)) ω _ hk1) rfl rfl (by rw [hR9]; decide) (lw_g_mk tw_1452 rfl) (lw_g_mk tw_7 rfl) (by decide) rfl (lw_g_mk tw_1449 rfl) rfl (Nat.le_of_ble_eq_true rfl) dX6_splits_6 (by rw [hR9]; decide) ?_
  refine x_iconst C (v := 0) dX6_splits_9 (by decide) ?_
  refine x_istore_n C [(1, .int (0 : Int32)), (0, .ref (B + oMd))] dX6_splits_10 rfl (by decide) rfl ?_
  refine x_iconst C (v := 0) dX6_splits_11 (by decide) ?_
  refine x_istore_n C [(2, .int (0 : Int32)), (1, .int (0 : Int32)), (0, .ref (B + oMd))] dX6_splits_12 rfl (by decide) rfl ?_
  obtain ⟨b13, hk9, h⟩ := Option.bind_eq_some_iff.mp h
  refine x_sub [2, 1, 0] rfl ?_
  refine loop_run (step := stX6_splits_13 q1) (P := fun (a13 : Int32 × Int32) => X p l e R s m args below meth c 3 cy D B 0 0 Q 13 [(0, .ref (B + oMd)), (1, .int a13.1), (2, .int a13.2)] [] σ q1 ω) (K := fun (b13 : Int32) => X p l e R s m args below meth c 3 cy D B 0 0 Q 47 [(1, .int b13)] [] σ q1 ω) ?_ 5000 ((0 : Int32), (0 : Int32)) b13 hk9 ?_
  · intro a13 r h hA2 hB3
    unfold stX6_splits_13 at h
    refine x_iload_n C dX6_splits_13 rfl 2 rfl ?_
    refine x_aload_n C dX6_splits_14 rfl 0 rfl ?_
    refine x_bipush C (v := 37) dX6_splits_15 (by decide) ?_
    obtain ⟨q2, hk4, h⟩ := Option.bind_eq_some_iff.mp h
    refine x_callV C (As := [.int (37 : Int32)]) (rest := [.int a13.2]) (lw_g_mk tw_1296 rfl) (lw_g_mk tsel_31 rfl) (c_Md) (C1 := "HostelBedsModel") (T := TX6) (N := 27) (ci := 6) rfl (okX6_get l cy D B ek (37 : Int32) σ q1 ω _ hk4) rfl rfl (by rw [hR9]; decide) (lw_g_mk tw_1297 rfl) (lw_g_mk tw_7 rfl) (by decide) rfl (lw_g_mk tw_1294 rfl) rfl (Nat.le_of_ble_eq_true rfl) dX6_splits_17 (by rw [hR9]; decide) ?_
    refine x_icmp_ge C (tgt := 47) dX6_splits_20 (by decide) (fun hc5 => ?_) (fun hc5 => ?_)
    · rw [if_pos hc5] at h
      cases h
      refine x_sub [1] rfl ?_
      exact hB3 a13.1 rfl
    · rw [if_neg hc5] at h
      refine x_iload_n C dX6_splits_23 rfl 1 rfl ?_
      refine x_aload_n C dX6_splits_24 rfl 0 rfl ?_
      refine x_get C (C1 := "HostelBedsModel") (T := TX6) (N := 27) (ci := 6) inXg6 _ (c_Md) rfl 22 (by decide) (lw_g_mk tw_1153 rfl) rfl dX6_splits_25 ?_
      refine x_iload_n C dX6_splits_28 rfl 2 rfl ?_
      obtain ⟨hg6, h⟩ := gd_some h
      refine x_iald C _ (c_Bec) hg6 dX6_splits_29 ?_
      refine x_iconst C (v := 2) dX6_splits_30 (by decide) ?_
      have hJ7 : ∀ (t3 : Int32) (r9 : (Int32 × Int32) ⊕ (Int32)), jX6_splits_39 a13 t3 = some r9 → (∀ a2, r9 = .inl a2 → (fun (a13 : Int32 × Int32) => X p l e R s m args below meth c 3 cy D B 0 0 Q 13 [(0, .ref (B + oMd)), (1, .int a13.1), (2, .int a13.2)] [] σ q1 ω) a2) → (∀ b2, r9 = .inr b2 → (fun (b13 : Int32) => X p l e R s m args below meth c 3 cy D B 0 0 Q 47 [(1, .int b13)] [] σ q1 ω) b2) → X p l e R s m args below meth c 3 cy D B 0 0 Q 39 [(0, .ref (B + oMd)), (2, .int a13.2)] [.int t3, .int a13.1] σ q1 ω := by
        intro t3 r h hA2 hB3
        unfold jX6_splits_39 at h
        refine x_iadd C dX6_splits_39 ?_
        refine x_istore_n C [(1, .int (a13.1 + t3)), (0, .ref (B + oMd)), (2, .int a13.2)] dX6_splits_40 rfl (by decide) rfl ?_
        refine x_iinc C (k := 2) [(2, .int (a13.2 + (1 : Int32))), (1, .int (a13.1 + t3)), (0, .ref (B + oMd))] dX6_splits_41 rfl rfl (by decide) rfl ?_
        refine x_goto C (tgt := 13) dX6_splits_44 (by decide) ?_
        cases h
        refine x_sub [2, 1, 0] rfl ?_
        exact hA2 (a13.1 + t3, a13.2 + (1 : Int32)) rfl
      refine x_icmp_ne C (tgt := 38) dX6_splits_31 (by decide) (fun hc8 => ?_) (fun hc8 => ?_)
      · rw [if_pos hc8] at h
        refine x_iconst C (v := 0) dX6_splits_38 (by decide) ?_
        refine x_sub [0, 2] rfl ?_
        exact hJ7 (0 : Int32) _ h hA2 hB3
      · rw [if_neg hc8] at h
        refine x_iconst C (v := 1) dX6_splits_34 (by decide) ?_
        refine x_goto C (tgt := 39) dX6_splits_35 (by decide) ?_
        refine x_sub [0, 2] rfl ?_
        exact hJ7 (1 : Int32) _ h hA2 hB3
  · show X p l e R s m args below meth c 3 cy D B 0 0 Q 47 [(1, .int b13)] [] σ q1 ω
    refine x_iload_n C dX6_splits_47 rfl 0 rfl ?_
    cases h
    exact hret _ _ dX6_splits_48 rfl
def stX6_areFree_2 (p1 : Int32) (μ : Mem) (p2 : Int32) (a2 : Int32) : Option ((Int32) ⊕ ((Unit) ⊕ (Int32))) := ((fX6_persons p1 μ).bind fun q1 => (if q1 ≤ a2 then (some (.inr (.inl ()))) else (gd (inb (((12 : Int32) * p1) + a2) 204) ((fX6_spot (rI μ 78 0 (((12 : Int32) * p1) + a2).toNatClampNeg) (rI μ 79 0 (((12 : Int32) * p1) + a2).toNatClampNeg) p2).bind fun q2 => (gd (inb q2 2400) (if (rI μ 76 0 q2.toNatClampNeg) = (-1 : Int32) then (some (.inl (a2 + (1 : Int32)))) else (some (.inr (.inr ((0 : Int32)))))))))))
def fX6_areFree (p1 : Int32) (p2 : Int32) (μ : Mem) : Option (Int32) := ((loop (stX6_areFree_2 p1 μ p2) 5000 ((0 : Int32))).bind fun b2 => Sum.elim (fun z2 => (some ((1 : Int32)))) (fun w2 => (some w2)) b2)
set_option maxHeartbeats 4000000 in
set_option maxRecDepth 100000 in
theorem okX6_areFree (l : Launch) (cy : Nat → ClassId) (D : va_G) (B : Nat) (ek : EK) (p1 : Int32) (p2 : Int32) (σ μ ω : Mem) (res : Int32) (h : fX6_areFree p1 p2 μ = some res) : CT l cy D B ek yX6_areFree cX6_areFree 5 (some .boolean) ({ frames := 3, cells := 0, slots := 0, locals := 64 } : Room) [.ref (B + oMd), .int p1, .int p2] σ μ ω (some (.int res)) σ μ ω := by
  refine met_X (own := "HostelBedsModel") (by decide) rfl (Nat.le_of_ble_eq_true rfl) ?_
  intro p e s m args below meth c C hrT hlk
  have hret : ∀ (pc9 : Nat) (lcs9 : List (Nat × Value)), decode cX6_areFree pc9 = .ok (.ireturn, 1) → narrow .boolean (.int res) = .int res → X p l e ({ frames := 3, cells := 0, slots := 0, locals := 64 } : Room) s m args below meth c 5 cy D B 0 0 (MQ below (QR cy D B (some (.int res)) σ μ ω) args s 0 0 (aB B)) pc9 lcs9 [.int res] σ μ ω := fun _ _ hd hn => x_zret C hrT hlk hn hd
  generalize (MQ below (QR cy D B (some (.int res)) σ μ ω) args s 0 0 (aB B)) = Q at hret ⊢
  obtain ⟨R, hR9⟩ : ∃ R : Room, R = ({ frames := 3, cells := 0, slots := 0, locals := 64 } : Room) := ⟨_, rfl⟩
  rw [← hR9] at hret ⊢
  unfold fX6_areFree at h
  show X p l e R s m args below meth c 5 cy D B 0 0 Q 0 [(0, .ref (B + oMd)), (1, .int p1), (2, .int p2)] [] σ μ ω
  refine x_iconst C (v := 0) dX6_areFree_0 (by decide) ?_
  refine x_istore_n C [(3, .int (0 : Int32)), (0, .ref (B + oMd)), (1, .int p1), (2, .int p2)] dX6_areFree_1 rfl (by decide) rfl ?_
  obtain ⟨b2, hk9, h⟩ := Option.bind_eq_some_iff.mp h
  refine x_sub [1, 2, 3, 0] rfl ?_
  refine loop_run (step := stX6_areFree_2 p1 μ p2) (P := fun (a2 : Int32) => X p l e R s m args below meth c 5 cy D B 0 0 Q 2 [(0, .ref (B + oMd)), (1, .int p1), (2, .int p2), (3, .int a2)] [] σ μ ω) (K := fun (b2 : (Unit) ⊕ (Int32)) => Sum.elim (fun z2 => X p l e R s m args below meth c 5 cy D B 0 0 Q 54 [] [] σ μ ω) (fun w2 => ∀ (pc9 : Nat) (lcs9 : List (Nat × Value)), decode cX6_areFree pc9 = .ok (.ireturn, 1) → narrow .boolean (.int w2) = .int w2 → X p l e R s m args below meth c 5 cy D B 0 0 Q pc9 lcs9 [.int w2] σ μ ω) b2) ?_ 5000 ((0 : Int32)) b2 hk9 ?_
  · intro a2 r h hA1 hB2
    unfold stX6_areFree_2 at h
    refine x_iload_n C dX6_areFree_2 rfl 3 rfl ?_
    refine x_aload_n C dX6_areFree_3 rfl 0 rfl ?_
    refine x_iload_n C dX6_areFree_4 rfl 1 rfl ?_
    obtain ⟨q1, hk3, h⟩ := Option.bind_eq_some_iff.mp h
    refine x_callV C (As := [.int p1]) (rest := [.int a2]) (lw_g_mk tw_1375 rfl) (lw_g_mk tsel_50 rfl) (c_Md) (C1 := "HostelBedsModel") (T := TX6) (N := 27) (ci := 6) rfl (okX6_persons l cy D B ek p1 σ μ ω _ hk3) rfl rfl (by rw [hR9]; decide) (lw_g_mk tw_1376 rfl) (lw_g_mk tw_7 rfl) (by decide) rfl (lw_g_mk tw_1373 rfl) rfl (Nat.le_of_ble_eq_true rfl) dX6_areFree_5 (by rw [hR9]; decide) ?_
    refine x_icmp_ge C (tgt := 54) dX6_areFree_8 (by decide) (fun hc4 => ?_) (fun hc4 => ?_)
    · rw [if_pos hc4] at h
      cases h
      refine x_sub [] rfl ?_
      exact hB2 (.inl ()) rfl
    · rw [if_neg hc4] at h
      refine x_bipush C (v := 12) dX6_areFree_11 (by decide) ?_
      refine x_iload_n C dX6_areFree_13 rfl 1 rfl ?_
      refine x_imul C dX6_areFree_14 ?_
      refine x_iload_n C dX6_areFree_15 rfl 3 rfl ?_
      refine x_iadd C dX6_areFree_16 ?_
      refine x_istore C [(4, .int (((12 : Int32) * p1) + a2)), (0, .ref (B + oMd)), (1, .int p1), (2, .int p2), (3, .int a2)] dX6_areFree_17 (by decide) rfl ?_
      refine x_aload_n C dX6_areFree_19 rfl 1 rfl ?_
      refine x_get C (C1 := "HostelBedsModel") (T := TX6) (N := 27) (ci := 6) inXg6 _ (c_Md) rfl 21 (by decide) (lw_g_mk tw_1152 rfl) rfl dX6_areFree_20 ?_
      refine x_aload_n C dX6_areFree_23 rfl 1 rfl ?_
      refine x_get C (C1 := "HostelBedsModel") (T := TX6) (N := 27) (ci := 6) inXg6 _ (c_Md) rfl 23 (by decide) (lw_g_mk tw_1154 rfl) rfl dX6_areFree_24 ?_
      refine x_iload C dX6_areFree_27 0 rfl ?_
      obtain ⟨hg5, h⟩ := gd_some h
      refine x_iald C _ (c_SIn) hg5 dX6_areFree_29 ?_
      refine x_aload_n C dX6_areFree_30 rfl 1 rfl ?_
      refine x_get C (C1 := "HostelBedsModel") (T := TX6) (N := 27) (ci := 6) inXg6 _ (c_Md) rfl 24 (by decide) (lw_g_mk tw_1155 rfl) rfl dX6_areFree_31 ?_
      refine x_iload C dX6_areFree_34 0 rfl ?_
      refine x_iald C _ (c_SOn) hg5 dX6_areFree_36 ?_
      refine x_iload_n C dX6_areFree_37 rfl 3 rfl ?_
      obtain ⟨q2, hk6, h⟩ := Option.bind_eq_some_iff.mp h
      refine x_callS C (As := [.int (rI μ 78 0 (((12 : Int32) * p1) + a2).toNatClampNeg), .int (rI μ 79 0 (((12 : Int32) * p1) + a2).toNatClampNeg), .int p2]) (rest := [.ref (B + oHold)]) (lw_g_mk tw_1482 rfl) (okX6_spot l cy D B ek (rI μ 78 0 (((12 : Int32) * p1) + a2).toNatClampNeg) (rI μ 79 0 (((12 : Int32) * p1) + a2).toNatClampNeg) p2 σ μ ω _ hk6) rfl rfl (by rw [hR9]; decide) (lw_g_mk tw_1483 rfl) (lw_g_mk tw_7 rfl) (by decide) rfl (lw_g_mk tw_1481 rfl) rfl (Nat.le_of_ble_eq_true rfl) dX6_areFree_38 (by rw [hR9]; decide) ?_
      obtain ⟨hg7, h⟩ := gd_some h
      refine x_iald C _ (c_Hold) hg7 dX6_areFree_41 ?_
      refine x_iconst C (v := -1) dX6_areFree_42 (by decide) ?_
      refine x_icmp_eq C (tgt := 48) dX6_areFree_43 (by decide) (fun hc8 => ?_) (fun hc8 => ?_)
      · rw [if_pos hc8] at h
        refine x_iinc C (k := 4) [(3, .int (a2 + (1 : Int32))), (4, .int (((12 : Int32) * p1) + a2)), (0, .ref (B + oMd)), (1, .int p1), (2, .int p2)] dX6_areFree_48 rfl rfl (by decide) rfl ?_
        refine x_goto C (tgt := 2) dX6_areFree_51 (by decide) ?_
        cases h
        refine x_sub [2, 3, 4, 0] rfl ?_
        exact hA1 (a2 + (1 : Int32)) rfl
      · rw [if_neg hc8] at h
        refine x_iconst C (v := 0) dX6_areFree_46 (by decide) ?_
        cases h
        exact hB2 (.inr ((0 : Int32))) rfl _ _ dX6_areFree_47 (nar_Z (Or.inl rfl))
  · rcases b2 with z2 | w2
    · rw [Sum.elim_inl] at h
      show X p l e R s m args below meth c 5 cy D B 0 0 Q 54 [] [] σ μ ω
      refine x_iconst C (v := 1) dX6_areFree_54 (by decide) ?_
      cases h
      exact hret _ _ dX6_areFree_55 (nar_Z (Or.inr rfl))
    · rw [Sum.elim_inr] at h
      show ∀ (pc9 : Nat) (lcs9 : List (Nat × Value)), decode cX6_areFree pc9 = .ok (.ireturn, 1) → narrow .boolean (.int w2) = .int w2 → X p l e R s m args below meth c 5 cy D B 0 0 Q pc9 lcs9 [.int w2] σ μ ω
      cases h
      exact hret
def stX6_extendable_49 (p1 : Int32) (q2 : Mem) (a49 : Int32) : Option ((Int32) ⊕ (Int32)) := (if (30 : Int32) ≤ a49 then (some (.inr a49)) else ((fX6_areFree p1 a49 q2).bind fun q6 => (if q6 = 0 then (some (.inr a49)) else (some (.inl (a49 + (1 : Int32)))))))
def fX6_extendable (p1 : Int32) (μ : Mem) : Option (Int32 × Mem) := ((fX6_isBooking p1 (wI μ 60 0 0 (0 : Int32))).bind fun q1 => (if ¬ q1 = 0 then ((fX6_placesAll (wI μ 60 0 0 (0 : Int32))).bind fun q2 => ((fX6_hasBeds p1 q2).bind fun q3 => (if ¬ q3 = 0 then ((fX6_of p1 (0 : Int32) q2).bind fun q4 => ((fX6_of p1 (1 : Int32) q2).bind fun q5 => ((loop (stX6_extendable_49 p1 q2) 5000 (q4 + q5)).bind fun b49 => (some (b49 - (q4 + q5), q2))))) else (some ((0 : Int32), q2))))) else ((fX6_fails (1 : Int32) (wI μ 60 0 0 (0 : Int32))).bind fun q7 => (some (q7.1, q7.2)))))
set_option maxHeartbeats 4000000 in
set_option maxRecDepth 100000 in
theorem okX6_extendable (l : Launch) (cy : Nat → ClassId) (D : va_G) (B : Nat) (ek : EK) (p1 : Int32) (σ μ ω : Mem) (res : Int32 × Mem) (h : fX6_extendable p1 μ = some res) : CT l cy D B ek yX6_extendable cX6_extendable 4 (some .int) ({ frames := 8, cells := 0, slots := 0, locals := 185 } : Room) [.ref (B + oMd), .int p1] σ μ ω (some (.int res.1)) σ res.2 ω := by
  refine met_X (own := "HostelBedsModel") (by decide) rfl (Nat.le_of_ble_eq_true rfl) ?_
  intro p e s m args below meth c C hrT hlk
  have hret : ∀ (pc9 : Nat) (lcs9 : List (Nat × Value)), decode cX6_extendable pc9 = .ok (.ireturn, 1) → narrow .int (.int res.1) = .int res.1 → X p l e ({ frames := 8, cells := 0, slots := 0, locals := 185 } : Room) s m args below meth c 4 cy D B 0 0 (MQ below (QR cy D B (some (.int res.1)) σ res.2 ω) args s 0 0 (aB B)) pc9 lcs9 [.int res.1] σ res.2 ω := fun _ _ hd hn => x_zret C hrT hlk hn hd
  generalize (MQ below (QR cy D B (some (.int res.1)) σ res.2 ω) args s 0 0 (aB B)) = Q at hret ⊢
  obtain ⟨R, hR9⟩ : ∃ R : Room, R = ({ frames := 8, cells := 0, slots := 0, locals := 185 } : Room) := ⟨_, rfl⟩
  rw [← hR9] at hret ⊢
  unfold fX6_extendable at h
  show X p l e R s m args below meth c 4 cy D B 0 0 Q 0 [(0, .ref (B + oMd)), (1, .int p1)] [] σ μ ω
  refine x_aload_n C dX6_extendable_0 rfl 0 rfl ?_
  refine x_iconst C (v := 0) dX6_extendable_1 (by decide) ?_
  refine x_put C (C1 := "HostelBedsModel") (T := TX6) (N := 27) (ci := 6) inXg6 tyX6 tyX6_ok nmX6 _ (c_Md) rfl 0 (by decide) (lw_g_mk tw_1131 rfl) rfl rfl rfl rfl (Nat.le_of_ble_eq_true rfl) dX6_extendable_2 (s_Md_thrown) ?_
  refine x_aload_n C dX6_extendable_5 rfl 0 rfl ?_
  refine x_iload_n C dX6_extendable_6 rfl 1 rfl ?_
  obtain ⟨q1, hk1, h⟩ := Option.bind_eq_some_iff.mp h
  refine x_callV C (As := [.int p1]) (rest := []) (lw_g_mk tw_1431 rfl) (lw_g_mk tsel_59 rfl) (c_Md) (C1 := "HostelBedsModel") (T := TX6) (N := 27) (ci := 6) rfl (okX6_isBooking l cy D B ek p1 σ (wI μ 60 0 0 (0 : Int32)) ω _ hk1) rfl rfl (by rw [hR9]; decide) (lw_g_mk tw_1432 rfl) (lw_g_mk tw_7 rfl) (by decide) rfl (lw_g_mk tw_1429 rfl) rfl (Nat.le_of_ble_eq_true rfl) dX6_extendable_7 (by rw [hR9]; decide) ?_
  refine x_if_ne C (tgt := 19) dX6_extendable_10 (by decide) (fun hc2 => ?_) (fun hc2 => ?_)
  · rw [if_pos hc2] at h
    refine x_aload_n C dX6_extendable_19 rfl 0 rfl ?_
    obtain ⟨q2, hk3, h⟩ := Option.bind_eq_some_iff.mp h
    refine x_callV C (As := []) (rest := []) (lw_g_mk tw_1451 rfl) (lw_g_mk tsel_60 rfl) (c_Md) (C1 := "HostelBedsModel") (T := TX6) (N := 27) (ci := 6) rfl (okX6_placesAll l cy D B ek σ (wI μ 60 0 0 (0 : Int32)) ω _ hk3) rfl rfl (by rw [hR9]; decide) (lw_g_mk tw_1452 rfl) (lw_g_mk tw_7 rfl) (by decide) rfl (lw_g_mk tw_1449 rfl) rfl (Nat.le_of_ble_eq_true rfl) dX6_extendable_20 (by rw [hR9]; decide) ?_
    refine x_aload_n C dX6_extendable_23 rfl 0 rfl ?_
    refine x_iload_n C dX6_extendable_24 rfl 1 rfl ?_
    obtain ⟨q3, hk4, h⟩ := Option.bind_eq_some_iff.mp h
    refine x_callV C (As := [.int p1]) (rest := []) (lw_g_mk tw_1513 rfl) (lw_g_mk tsel_73 rfl) (c_Md) (C1 := "HostelBedsModel") (T := TX6) (N := 27) (ci := 6) rfl (okX6_hasBeds l cy D B ek p1 σ q2 ω _ hk4) rfl rfl (by rw [hR9]; decide) (lw_g_mk tw_1514 rfl) (lw_g_mk tw_7 rfl) (by decide) rfl (lw_g_mk tw_1511 rfl) rfl (Nat.le_of_ble_eq_true rfl) dX6_extendable_25 (by rw [hR9]; decide) ?_
    refine x_if_ne C (tgt := 33) dX6_extendable_28 (by decide) (fun hc5 => ?_) (fun hc5 => ?_)
    · rw [if_pos hc5] at h
      refine x_aload_n C dX6_extendable_33 rfl 0 rfl ?_
      refine x_iload_n C dX6_extendable_34 rfl 1 rfl ?_
      refine x_iconst C (v := 0) dX6_extendable_35 (by decide) ?_
      obtain ⟨q4, hk6, h⟩ := Option.bind_eq_some_iff.mp h
      refine x_callV C (As := [.int p1, .int (0 : Int32)]) (rest := []) (lw_g_mk tw_1367 rfl) (lw_g_mk tsel_48 rfl) (c_Md) (C1 := "HostelBedsModel") (T := TX6) (N := 27) (ci := 6) rfl (okX6_of l cy D B ek p1 (0 : Int32) σ q2 ω _ hk6) rfl rfl (by rw [hR9]; decide) (lw_g_mk tw_1368 rfl) (lw_g_mk tw_7 rfl) (by decide) rfl (lw_g_mk tw_1365 rfl) rfl (Nat.le_of_ble_eq_true rfl) dX6_extendable_36 (by rw [hR9]; decide) ?_
      refine x_aload_n C dX6_extendable_39 rfl 0 rfl ?_
      refine x_iload_n C dX6_extendable_40 rfl 1 rfl ?_
      refine x_iconst C (v := 1) dX6_extendable_41 (by decide) ?_
      obtain ⟨q5, hk7, h⟩ := Option.bind_eq_some_iff.mp h
      refine x_callV C (As := [.int p1, .int (1 : Int32)]) (rest := [.int q4]) (lw_g_mk tw_1367 rfl) (lw_g_mk tsel_48 rfl) (c_Md) (C1 := "HostelBedsModel") (T := TX6) (N := 27) (ci := 6) rfl (okX6_of l cy D B ek p1 (1 : Int32) σ q2 ω _ hk7) rfl rfl (by rw [hR9]; decide) (lw_g_mk tw_1368 rfl) (lw_g_mk tw_7 rfl) (by decide) rfl (lw_g_mk tw_1365 rfl) rfl (Nat.le_of_ble_eq_true rfl) dX6_extendable_42 (by rw [hR9]; decide) ?_
      refine x_iadd C dX6_extendable_45 ?_
      refine x_istore_n C [(2, .int (q4 + q5)), (0, .ref (B + oMd)), (1, .int p1)] dX6_extendable_46 rfl (by decide) rfl ?_
      refine x_iload_n C dX6_extendable_47 rfl 0 rfl ?_
      refine x_istore_n C [(3, .int (q4 + q5)), (2, .int (q4 + q5)), (0, .ref (B + oMd)), (1, .int p1)] dX6_extendable_48 rfl (by decide) rfl ?_
      obtain ⟨b49, hk13, h⟩ := Option.bind_eq_some_iff.mp h
      refine x_sub [2, 3, 1, 0] rfl ?_
      refine loop_run (step := stX6_extendable_49 p1 q2) (P := fun (a49 : Int32) => X p l e R s m args below meth c 4 cy D B 0 0 Q 49 [(0, .ref (B + oMd)), (1, .int p1), (2, .int (q4 + q5)), (3, .int a49)] [] σ q2 ω) (K := fun (b49 : Int32) => X p l e R s m args below meth c 4 cy D B 0 0 Q 70 [(2, .int (q4 + q5)), (3, .int b49)] [] σ q2 ω) ?_ 5000 (q4 + q5) b49 hk13 ?_
      · intro a49 r h hA8 hB9
        unfold stX6_extendable_49 at h
        refine x_iload_n C dX6_extendable_49 rfl 3 rfl ?_
        refine x_bipush C (v := 30) dX6_extendable_50 (by decide) ?_
        refine x_icmp_ge C (tgt := 70) dX6_extendable_52 (by decide) (fun hc10 => ?_) (fun hc10 => ?_)
        · rw [if_pos hc10] at h
          cases h
          refine x_sub [2, 3] rfl ?_
          exact hB9 a49 rfl
        · rw [if_neg hc10] at h
          refine x_aload_n C dX6_extendable_55 rfl 0 rfl ?_
          refine x_iload_n C dX6_extendable_56 rfl 1 rfl ?_
          refine x_iload_n C dX6_extendable_57 rfl 3 rfl ?_
          obtain ⟨q6, hk11, h⟩ := Option.bind_eq_some_iff.mp h
          refine x_callV C (As := [.int p1, .int a49]) (rest := []) (lw_g_mk tw_1584 rfl) (lw_g_mk tsel_79 rfl) (c_Md) (C1 := "HostelBedsModel") (T := TX6) (N := 27) (ci := 6) rfl (okX6_areFree l cy D B ek p1 a49 σ q2 ω _ hk11) rfl rfl (by rw [hR9]; decide) (lw_g_mk tw_1585 rfl) (lw_g_mk tw_7 rfl) (by decide) rfl (lw_g_mk tw_1582 rfl) rfl (Nat.le_of_ble_eq_true rfl) dX6_extendable_58 (by rw [hR9]; decide) ?_
          refine x_if_eq C (tgt := 70) dX6_extendable_61 (by decide) (fun hc12 => ?_) (fun hc12 => ?_)
          · rw [if_pos hc12] at h
            cases h
            refine x_sub [2, 3] rfl ?_
            exact hB9 a49 rfl
          · rw [if_neg hc12] at h
            refine x_iinc C (k := 3) [(3, .int (a49 + (1 : Int32))), (0, .ref (B + oMd)), (1, .int p1), (2, .int (q4 + q5))] dX6_extendable_64 rfl rfl (by decide) rfl ?_
            refine x_goto C (tgt := 49) dX6_extendable_67 (by decide) ?_
            cases h
            refine x_sub [1, 2, 3, 0] rfl ?_
            exact hA8 (a49 + (1 : Int32)) rfl
      · show X p l e R s m args below meth c 4 cy D B 0 0 Q 70 [(2, .int (q4 + q5)), (3, .int b49)] [] σ q2 ω
        refine x_iload_n C dX6_extendable_70 rfl 1 rfl ?_
        refine x_iload_n C dX6_extendable_71 rfl 0 rfl ?_
        refine x_isub C dX6_extendable_72 ?_
        cases h
        exact hret _ _ dX6_extendable_73 rfl
    · rw [if_neg hc5] at h
      refine x_iconst C (v := 0) dX6_extendable_31 (by decide) ?_
      cases h
      exact hret _ _ dX6_extendable_32 rfl
  · rw [if_neg hc2] at h
    refine x_aload_n C dX6_extendable_13 rfl 0 rfl ?_
    refine x_iconst C (v := 1) dX6_extendable_14 (by decide) ?_
    obtain ⟨q7, hk14, h⟩ := Option.bind_eq_some_iff.mp h
    refine x_callV C (As := [.int (1 : Int32)]) (rest := []) (lw_g_mk tw_1224 rfl) (lw_g_mk tsel_18 rfl) (c_Md) (C1 := "HostelBedsModel") (T := TX6) (N := 27) (ci := 6) rfl (okX6_fails l cy D B ek (1 : Int32) σ (wI μ 60 0 0 (0 : Int32)) ω _ hk14) rfl rfl (by rw [hR9]; decide) (lw_g_mk tw_1225 rfl) (lw_g_mk tw_7 rfl) (by decide) rfl (lw_g_mk tw_1222 rfl) rfl (Nat.le_of_ble_eq_true rfl) dX6_extendable_15 (by rw [hR9]; decide) ?_
    cases h
    exact hret _ _ dX6_extendable_18 rfl
def stX6_paidBy_14 (p1 : Int32) (μ : Mem) (a14 : Int32 × Int32) : Option ((Int32 × Int32) ⊕ (Int32)) := ((fX6_persons p1 μ).bind fun q2 => (if q2 ≤ a14.2 then (some (.inr a14.1)) else (gd (inb (((12 : Int32) * p1) + a14.2) 204) ((fX6_roomIs (rI μ 78 0 (((12 : Int32) * p1) + a14.2).toNatClampNeg) (3 : Int32) μ).bind fun q3 => ((fX6_of p1 (1 : Int32) μ).bind fun q4 => (some (.inl (a14.1 + (q3 * q4), a14.2 + (1 : Int32)))))))))
def fX6_paidBy (p1 : Int32) (μ : Mem) : Option (Int32) := ((fX6_hasBeds p1 μ).bind fun q1 => (if ¬ q1 = 0 then ((loop (stX6_paidBy_14 p1 μ) 5000 ((0 : Int32), (0 : Int32))).bind fun b14 => ((fX6_of p1 (1 : Int32) μ).bind fun q5 => ((fX6_get (2 : Int32) μ).bind fun q6 => (if q5 < q6 then (some b14) else ((fX6_get (3 : Int32) μ).bind fun q7 => (some ((b14 * ((100 : Int32) - q7)) / (100 : Int32)))))))) else (some ((0 : Int32)))))
set_option maxHeartbeats 4000000 in
set_option maxRecDepth 100000 in
theorem okX6_paidBy (l : Launch) (cy : Nat → ClassId) (D : va_G) (B : Nat) (ek : EK) (p1 : Int32) (σ μ ω : Mem) (res : Int32) (h : fX6_paidBy p1 μ = some res) : CT l cy D B ek yX6_paidBy cX6_paidBy 4 (some .int) ({ frames := 3, cells := 0, slots := 0, locals := 64 } : Room) [.ref (B + oMd), .int p1] σ μ ω (some (.int res)) σ μ ω := by
  refine met_X (own := "HostelBedsModel") (by decide) rfl (Nat.le_of_ble_eq_true rfl) ?_
  intro p e s m args below meth c C hrT hlk
  have hret : ∀ (pc9 : Nat) (lcs9 : List (Nat × Value)), decode cX6_paidBy pc9 = .ok (.ireturn, 1) → narrow .int (.int res) = .int res → X p l e ({ frames := 3, cells := 0, slots := 0, locals := 64 } : Room) s m args below meth c 4 cy D B 0 0 (MQ below (QR cy D B (some (.int res)) σ μ ω) args s 0 0 (aB B)) pc9 lcs9 [.int res] σ μ ω := fun _ _ hd hn => x_zret C hrT hlk hn hd
  generalize (MQ below (QR cy D B (some (.int res)) σ μ ω) args s 0 0 (aB B)) = Q at hret ⊢
  obtain ⟨R, hR9⟩ : ∃ R : Room, R = ({ frames := 3, cells := 0, slots := 0, locals := 64 } : Room) := ⟨_, rfl⟩
  rw [← hR9] at hret ⊢
  unfold fX6_paidBy at h
  show X p l e R s m args below meth c 4 cy D B 0 0 Q 0 [(0, .ref (B + oMd)), (1, .int p1)] [] σ μ ω
  refine x_aload_n C dX6_paidBy_0 rfl 0 rfl ?_
  refine x_iload_n C dX6_paidBy_1 rfl 1 rfl ?_
  obtain ⟨q1, hk1, h⟩ := Option.bind_eq_some_iff.mp h
  refine x_callV C (As := [.int p1]) (rest := []) (lw_g_mk tw_1513 rfl) (lw_g_mk tsel_73 rfl) (c_Md) (C1 := "HostelBedsModel") (T := TX6) (N := 27) (ci := 6) rfl (okX6_hasBeds l cy D B ek p1 σ μ ω _ hk1) rfl rfl (by rw [hR9]; decide) (lw_g_mk tw_1514 rfl) (lw_g_mk tw_7 rfl) (by decide) rfl (lw_g_mk tw_1511 rfl) rfl (Nat.le_of_ble_eq_true rfl) dX6_paidBy_2 (by rw [hR9]; decide) ?_
  refine x_if_ne C (tgt := 10) dX6_paidBy_5 (by decide) (fun hc2 => ?_) (fun hc2 => ?_)
  · rw [if_pos hc2] at h
    refine x_iconst C (v := 0) dX6_paidBy_10 (by decide) ?_
    refine x_istore_n C [(2, .int (0 : Int32)), (0, .ref (B + oMd)), (1, .int p1)] dX6_paidBy_11 rfl (by decide) rfl ?_
    refine x_iconst C (v := 0) dX6_paidBy_12 (by decide) ?_
    refine x_istore_n C [(3, .int (0 : Int32)), (2, .int (0 : Int32)), (0, .ref (B + oMd)), (1, .int p1)] dX6_paidBy_13 rfl (by decide) rfl ?_
    obtain ⟨b14, hk10, h⟩ := Option.bind_eq_some_iff.mp h
    refine x_sub [2, 3, 1, 0] rfl ?_
    refine loop_run (step := stX6_paidBy_14 p1 μ) (P := fun (a14 : Int32 × Int32) => X p l e R s m args below meth c 4 cy D B 0 0 Q 14 [(0, .ref (B + oMd)), (1, .int p1), (2, .int a14.1), (3, .int a14.2)] [] σ μ ω) (K := fun (b14 : Int32) => X p l e R s m args below meth c 4 cy D B 0 0 Q 55 [(0, .ref (B + oMd)), (1, .int p1), (2, .int b14)] [] σ μ ω) ?_ 5000 ((0 : Int32), (0 : Int32)) b14 hk10 ?_
    · intro a14 r h hA3 hB4
      unfold stX6_paidBy_14 at h
      refine x_iload_n C dX6_paidBy_14 rfl 3 rfl ?_
      refine x_aload_n C dX6_paidBy_15 rfl 0 rfl ?_
      refine x_iload_n C dX6_paidBy_16 rfl 1 rfl ?_
      obtain ⟨q2, hk5, h⟩ := Option.bind_eq_some_iff.mp h
      refine x_callV C (As := [.int p1]) (rest := [.int a14.2]) (lw_g_mk tw_1375 rfl) (lw_g_mk tsel_50 rfl) (c_Md) (C1 := "HostelBedsModel") (T := TX6) (N := 27) (ci := 6) rfl (okX6_persons l cy D B ek p1 σ μ ω _ hk5) rfl rfl (by rw [hR9]; decide) (lw_g_mk tw_1376 rfl) (lw_g_mk tw_7 rfl) (by decide) rfl (lw_g_mk tw_1373 rfl) rfl (Nat.le_of_ble_eq_true rfl) dX6_paidBy_17 (by rw [hR9]; decide) ?_
      refine x_icmp_ge C (tgt := 55) dX6_paidBy_20 (by decide) (fun hc6 => ?_) (fun hc6 => ?_)
      · rw [if_pos hc6] at h
        cases h
        refine x_sub [0, 1, 2] rfl ?_
        exact hB4 a14.1 rfl
      · rw [if_neg hc6] at h
        refine x_iload_n C dX6_paidBy_23 rfl 2 rfl ?_
        refine x_aload_n C dX6_paidBy_24 rfl 0 rfl ?_
        refine x_aload_n C dX6_paidBy_25 rfl 0 rfl ?_
        refine x_get C (C1 := "HostelBedsModel") (T := TX6) (N := 27) (ci := 6) inXg6 _ (c_Md) rfl 23 (by decide) (lw_g_mk tw_1154 rfl) rfl dX6_paidBy_26 ?_
        refine x_bipush C (v := 12) dX6_paidBy_29 (by decide) ?_
        refine x_iload_n C dX6_paidBy_31 rfl 1 rfl ?_
        refine x_imul C dX6_paidBy_32 ?_
        refine x_iload_n C dX6_paidBy_33 rfl 3 rfl ?_
        refine x_iadd C dX6_paidBy_34 ?_
        obtain ⟨hg7, h⟩ := gd_some h
        refine x_iald C _ (c_SIn) hg7 dX6_paidBy_35 ?_
        refine x_iconst C (v := 3) dX6_paidBy_36 (by decide) ?_
        obtain ⟨q3, hk8, h⟩ := Option.bind_eq_some_iff.mp h
        refine x_callV C (As := [.int (rI μ 78 0 (((12 : Int32) * p1) + a14.2).toNatClampNeg), .int (3 : Int32)]) (rest := [.int a14.1]) (lw_g_mk tw_1359 rfl) (lw_g_mk tsel_46 rfl) (c_Md) (C1 := "HostelBedsModel") (T := TX6) (N := 27) (ci := 6) rfl (okX6_roomIs l cy D B ek (rI μ 78 0 (((12 : Int32) * p1) + a14.2).toNatClampNeg) (3 : Int32) σ μ ω _ hk8) rfl rfl (by rw [hR9]; decide) (lw_g_mk tw_1360 rfl) (lw_g_mk tw_7 rfl) (by decide) rfl (lw_g_mk tw_1357 rfl) rfl (Nat.le_of_ble_eq_true rfl) dX6_paidBy_37 (by rw [hR9]; decide) ?_
        refine x_aload_n C dX6_paidBy_40 rfl 0 rfl ?_
        refine x_iload_n C dX6_paidBy_41 rfl 1 rfl ?_
        refine x_iconst C (v := 1) dX6_paidBy_42 (by decide) ?_
        obtain ⟨q4, hk9, h⟩ := Option.bind_eq_some_iff.mp h
        refine x_callV C (As := [.int p1, .int (1 : Int32)]) (rest := [.int q3, .int a14.1]) (lw_g_mk tw_1367 rfl) (lw_g_mk tsel_48 rfl) (c_Md) (C1 := "HostelBedsModel") (T := TX6) (N := 27) (ci := 6) rfl (okX6_of l cy D B ek p1 (1 : Int32) σ μ ω _ hk9) rfl rfl (by rw [hR9]; decide) (lw_g_mk tw_1368 rfl) (lw_g_mk tw_7 rfl) (by decide) rfl (lw_g_mk tw_1365 rfl) rfl (Nat.le_of_ble_eq_true rfl) dX6_paidBy_43 (by rw [hR9]; decide) ?_
        refine x_imul C dX6_paidBy_46 ?_
        refine x_iadd C dX6_paidBy_47 ?_
        refine x_istore_n C [(2, .int (a14.1 + (q3 * q4))), (0, .ref (B + oMd)), (1, .int p1), (3, .int a14.2)] dX6_paidBy_48 rfl (by decide) rfl ?_
        refine x_iinc C (k := 3) [(3, .int (a14.2 + (1 : Int32))), (2, .int (a14.1 + (q3 * q4))), (0, .ref (B + oMd)), (1, .int p1)] dX6_paidBy_49 rfl rfl (by decide) rfl ?_
        refine x_goto C (tgt := 14) dX6_paidBy_52 (by decide) ?_
        cases h
        refine x_sub [2, 3, 1, 0] rfl ?_
        exact hA3 (a14.1 + (q3 * q4), a14.2 + (1 : Int32)) rfl
    · show X p l e R s m args below meth c 4 cy D B 0 0 Q 55 [(0, .ref (B + oMd)), (1, .int p1), (2, .int b14)] [] σ μ ω
      refine x_aload_n C dX6_paidBy_55 rfl 0 rfl ?_
      refine x_iload_n C dX6_paidBy_56 rfl 1 rfl ?_
      refine x_iconst C (v := 1) dX6_paidBy_57 (by decide) ?_
      obtain ⟨q5, hk11, h⟩ := Option.bind_eq_some_iff.mp h
      refine x_callV C (As := [.int p1, .int (1 : Int32)]) (rest := []) (lw_g_mk tw_1367 rfl) (lw_g_mk tsel_48 rfl) (c_Md) (C1 := "HostelBedsModel") (T := TX6) (N := 27) (ci := 6) rfl (okX6_of l cy D B ek p1 (1 : Int32) σ μ ω _ hk11) rfl rfl (by rw [hR9]; decide) (lw_g_mk tw_1368 rfl) (lw_g_mk tw_7 rfl) (by decide) rfl (lw_g_mk tw_1365 rfl) rfl (Nat.le_of_ble_eq_true rfl) dX6_paidBy_58 (by rw [hR9]; decide) ?_
      refine x_aload_n C dX6_paidBy_61 rfl 0 rfl ?_
      refine x_iconst C (v := 2) dX6_paidBy_62 (by decide) ?_
      obtain ⟨q6, hk12, h⟩ := Option.bind_eq_some_iff.mp h
      refine x_callV C (As := [.int (2 : Int32)]) (rest := [.int q5]) (lw_g_mk tw_1296 rfl) (lw_g_mk tsel_31 rfl) (c_Md) (C1 := "HostelBedsModel") (T := TX6) (N := 27) (ci := 6) rfl (okX6_get l cy D B ek (2 : Int32) σ μ ω _ hk12) rfl rfl (by rw [hR9]; decide) (lw_g_mk tw_1297 rfl) (lw_g_mk tw_7 rfl) (by decide) rfl (lw_g_mk tw_1294 rfl) rfl (Nat.le_of_ble_eq_true rfl) dX6_paidBy_63 (by rw [hR9]; decide) ?_
      refine x_icmp_lt C (tgt := 85) dX6_paidBy_66 (by decide) (fun hc13 => ?_) (fun hc13 => ?_)
      · rw [if_pos hc13] at h
        refine x_iload_n C dX6_paidBy_85 rfl 2 rfl ?_
        cases h
        exact hret _ _ dX6_paidBy_86 rfl
      · rw [if_neg hc13] at h
        refine x_iload_n C dX6_paidBy_69 rfl 2 rfl ?_
        refine x_bipush C (v := 100) dX6_paidBy_70 (by decide) ?_
        refine x_aload_n C dX6_paidBy_72 rfl 0 rfl ?_
        refine x_iconst C (v := 3) dX6_paidBy_73 (by decide) ?_
        obtain ⟨q7, hk14, h⟩ := Option.bind_eq_some_iff.mp h
        refine x_callV C (As := [.int (3 : Int32)]) (rest := [.int (100 : Int32), .int b14]) (lw_g_mk tw_1296 rfl) (lw_g_mk tsel_31 rfl) (c_Md) (C1 := "HostelBedsModel") (T := TX6) (N := 27) (ci := 6) rfl (okX6_get l cy D B ek (3 : Int32) σ μ ω _ hk14) rfl rfl (by rw [hR9]; decide) (lw_g_mk tw_1297 rfl) (lw_g_mk tw_7 rfl) (by decide) rfl (lw_g_mk tw_1294 rfl) rfl (Nat.le_of_ble_eq_true rfl) dX6_paidBy_74 (by rw [hR9]; decide) ?_
        refine x_isub C dX6_paidBy_77 ?_
        refine x_imul C dX6_paidBy_78 ?_
        refine x_bipush C (v := 100) dX6_paidBy_79 (by decide) ?_
        refine x_idiv C dX6_paidBy_81 (by decide) ?_
        refine x_goto C (tgt := 86) dX6_paidBy_82 (by decide) ?_
        cases h
        exact hret _ _ dX6_paidBy_86 rfl
  · rw [if_neg hc2] at h
    refine x_iconst C (v := 0) dX6_paidBy_8 (by decide) ?_
    cases h
    exact hret _ _ dX6_paidBy_9 rfl
def fX6_pays (p1 : Int32) (μ : Mem) : Option (Int32 × Mem) := ((fX6_isBooking p1 (wI μ 60 0 0 (0 : Int32))).bind fun q1 => (if ¬ q1 = 0 then ((fX6_placesAll (wI μ 60 0 0 (0 : Int32))).bind fun q2 => ((fX6_paidBy p1 q2).bind fun q3 => (some (q3, q2)))) else ((fX6_fails (1 : Int32) (wI μ 60 0 0 (0 : Int32))).bind fun q4 => (some (q4.1, q4.2)))))
set_option maxHeartbeats 4000000 in
set_option maxRecDepth 100000 in
theorem okX6_pays (l : Launch) (cy : Nat → ClassId) (D : va_G) (B : Nat) (ek : EK) (p1 : Int32) (σ μ ω : Mem) (res : Int32 × Mem) (h : fX6_pays p1 μ = some res) : CT l cy D B ek yX6_pays cX6_pays 2 (some .int) ({ frames := 8, cells := 0, slots := 0, locals := 185 } : Room) [.ref (B + oMd), .int p1] σ μ ω (some (.int res.1)) σ res.2 ω := by
  refine met_X (own := "HostelBedsModel") (by decide) rfl (Nat.le_of_ble_eq_true rfl) ?_
  intro p e s m args below meth c C hrT hlk
  have hret : ∀ (pc9 : Nat) (lcs9 : List (Nat × Value)), decode cX6_pays pc9 = .ok (.ireturn, 1) → narrow .int (.int res.1) = .int res.1 → X p l e ({ frames := 8, cells := 0, slots := 0, locals := 185 } : Room) s m args below meth c 2 cy D B 0 0 (MQ below (QR cy D B (some (.int res.1)) σ res.2 ω) args s 0 0 (aB B)) pc9 lcs9 [.int res.1] σ res.2 ω := fun _ _ hd hn => x_zret C hrT hlk hn hd
  generalize (MQ below (QR cy D B (some (.int res.1)) σ res.2 ω) args s 0 0 (aB B)) = Q at hret ⊢
  obtain ⟨R, hR9⟩ : ∃ R : Room, R = ({ frames := 8, cells := 0, slots := 0, locals := 185 } : Room) := ⟨_, rfl⟩
  rw [← hR9] at hret ⊢
  unfold fX6_pays at h
  show X p l e R s m args below meth c 2 cy D B 0 0 Q 0 [(0, .ref (B + oMd)), (1, .int p1)] [] σ μ ω
  refine x_aload_n C dX6_pays_0 rfl 0 rfl ?_
  refine x_iconst C (v := 0) dX6_pays_1 (by decide) ?_
  refine x_put C (C1 := "HostelBedsModel") (T := TX6) (N := 27) (ci := 6) inXg6 tyX6 tyX6_ok nmX6 _ (c_Md) rfl 0 (by decide) (lw_g_mk tw_1131 rfl) rfl rfl rfl rfl (Nat.le_of_ble_eq_true rfl) dX6_pays_2 (s_Md_thrown) ?_
  refine x_aload_n C dX6_pays_5 rfl 0 rfl ?_
  refine x_iload_n C dX6_pays_6 rfl 1 rfl ?_
  obtain ⟨q1, hk1, h⟩ := Option.bind_eq_some_iff.mp h
  refine x_callV C (As := [.int p1]) (rest := []) (lw_g_mk tw_1431 rfl) (lw_g_mk tsel_59 rfl) (c_Md) (C1 := "HostelBedsModel") (T := TX6) (N := 27) (ci := 6) rfl (okX6_isBooking l cy D B ek p1 σ (wI μ 60 0 0 (0 : Int32)) ω _ hk1) rfl rfl (by rw [hR9]; decide) (lw_g_mk tw_1432 rfl) (lw_g_mk tw_7 rfl) (by decide) rfl (lw_g_mk tw_1429 rfl) rfl (Nat.le_of_ble_eq_true rfl) dX6_pays_7 (by rw [hR9]; decide) ?_
  refine x_if_ne C (tgt := 19) dX6_pays_10 (by decide) (fun hc2 => ?_) (fun hc2 => ?_)
  · rw [if_pos hc2] at h
    refine x_aload_n C dX6_pays_19 rfl 0 rfl ?_
    obtain ⟨q2, hk3, h⟩ := Option.bind_eq_some_iff.mp h
    refine x_callV C (As := []) (rest := []) (lw_g_mk tw_1451 rfl) (lw_g_mk tsel_60 rfl) (c_Md) (C1 := "HostelBedsModel") (T := TX6) (N := 27) (ci := 6) rfl (okX6_placesAll l cy D B ek σ (wI μ 60 0 0 (0 : Int32)) ω _ hk3) rfl rfl (by rw [hR9]; decide) (lw_g_mk tw_1452 rfl) (lw_g_mk tw_7 rfl) (by decide) rfl (lw_g_mk tw_1449 rfl) rfl (Nat.le_of_ble_eq_true rfl) dX6_pays_20 (by rw [hR9]; decide) ?_
    refine x_aload_n C dX6_pays_23 rfl 0 rfl ?_
    refine x_iload_n C dX6_pays_24 rfl 1 rfl ?_
    obtain ⟨q3, hk4, h⟩ := Option.bind_eq_some_iff.mp h
    refine x_callV C (As := [.int p1]) (rest := []) (lw_g_mk tw_1592 rfl) (lw_g_mk tsel_80 rfl) (c_Md) (C1 := "HostelBedsModel") (T := TX6) (N := 27) (ci := 6) rfl (okX6_paidBy l cy D B ek p1 σ q2 ω _ hk4) rfl rfl (by rw [hR9]; decide) (lw_g_mk tw_1593 rfl) (lw_g_mk tw_7 rfl) (by decide) rfl (lw_g_mk tw_1590 rfl) rfl (Nat.le_of_ble_eq_true rfl) dX6_pays_25 (by rw [hR9]; decide) ?_
    cases h
    exact hret _ _ dX6_pays_28 rfl
  · rw [if_neg hc2] at h
    refine x_aload_n C dX6_pays_13 rfl 0 rfl ?_
    refine x_iconst C (v := 1) dX6_pays_14 (by decide) ?_
    obtain ⟨q4, hk5, h⟩ := Option.bind_eq_some_iff.mp h
    refine x_callV C (As := [.int (1 : Int32)]) (rest := []) (lw_g_mk tw_1224 rfl) (lw_g_mk tsel_18 rfl) (c_Md) (C1 := "HostelBedsModel") (T := TX6) (N := 27) (ci := 6) rfl (okX6_fails l cy D B ek (1 : Int32) σ (wI μ 60 0 0 (0 : Int32)) ω _ hk5) rfl rfl (by rw [hR9]; decide) (lw_g_mk tw_1225 rfl) (lw_g_mk tw_7 rfl) (by decide) rfl (lw_g_mk tw_1222 rfl) rfl (Nat.le_of_ble_eq_true rfl) dX6_pays_15 (by rw [hR9]; decide) ?_
    cases h
    exact hret _ _ dX6_pays_18 rfl
def jX6_walksCost_47 (a4 : Int32 × Int32) (t2 : Int32) : Option ((Int32 × Int32) ⊕ (Int32)) := (some (.inl (a4.1 + t2, a4.2 + (1 : Int32))))
def stX6_walksCost_4 (μ : Mem) (a4 : Int32 × Int32) : Option ((Int32 × Int32) ⊕ (Int32)) := ((fX6_get (37 : Int32) μ).bind fun q1 => (if q1 ≤ a4.2 then (some (.inr a4.1)) else (gd (inb a4.2 17) (if ¬ (rI μ 77 0 a4.2.toNatClampNeg) = (3 : Int32) then (jX6_walksCost_47 a4 (0 : Int32)) else ((fX6_get (1 : Int32) μ).bind fun q3 => ((fX6_persons a4.2 μ).bind fun q4 => ((fX6_of a4.2 (1 : Int32) μ).bind fun q5 => (jX6_walksCost_47 a4 ((q3 * q4) * q5)))))))))
def fX6_walksCost (μ : Mem) : Option (Int32) := ((loop (stX6_walksCost_4 μ) 5000 ((0 : Int32), (0 : Int32))).bind fun b4 => (some b4))
set_option maxHeartbeats 4000000 in
set_option maxRecDepth 100000 in
theorem okX6_walksCost (l : Launch) (cy : Nat → ClassId) (D : va_G) (B : Nat) (ek : EK) (σ μ ω : Mem) (res : Int32) (h : fX6_walksCost μ = some res) : CT l cy D B ek yX6_walksCost cX6_walksCost 3 (some .int) ({ frames := 3, cells := 0, slots := 0, locals := 64 } : Room) [.ref (B + oMd)] σ μ ω (some (.int res)) σ μ ω := by
  refine met_X (own := "HostelBedsModel") (by decide) rfl (Nat.le_of_ble_eq_true rfl) ?_
  intro p e s m args below meth c C hrT hlk
  have hret : ∀ (pc9 : Nat) (lcs9 : List (Nat × Value)), decode cX6_walksCost pc9 = .ok (.ireturn, 1) → narrow .int (.int res) = .int res → X p l e ({ frames := 3, cells := 0, slots := 0, locals := 64 } : Room) s m args below meth c 3 cy D B 0 0 (MQ below (QR cy D B (some (.int res)) σ μ ω) args s 0 0 (aB B)) pc9 lcs9 [.int res] σ μ ω := fun _ _ hd hn => x_zret C hrT hlk hn hd
  generalize (MQ below (QR cy D B (some (.int res)) σ μ ω) args s 0 0 (aB B)) = Q at hret ⊢
  obtain ⟨R, hR9⟩ : ∃ R : Room, R = ({ frames := 3, cells := 0, slots := 0, locals := 64 } : Room) := ⟨_, rfl⟩
  rw [← hR9] at hret ⊢
  unfold fX6_walksCost at h
  show X p l e R s m args below meth c 3 cy D B 0 0 Q 0 [(0, .ref (B + oMd))] [] σ μ ω
  refine x_iconst C (v := 0) dX6_walksCost_0 (by decide) ?_
  refine x_istore_n C [(1, .int (0 : Int32)), (0, .ref (B + oMd))] dX6_walksCost_1 rfl (by decide) rfl ?_
  refine x_iconst C (v := 0) dX6_walksCost_2 (by decide) ?_
  refine x_istore_n C [(2, .int (0 : Int32)), (1, .int (0 : Int32)), (0, .ref (B + oMd))] dX6_walksCost_3 rfl (by decide) rfl ?_
  obtain ⟨b4, hk11, h⟩ := Option.bind_eq_some_iff.mp h
  refine x_sub [2, 1, 0] rfl ?_
  refine loop_run (step := stX6_walksCost_4 μ) (P := fun (a4 : Int32 × Int32) => X p l e R s m args below meth c 3 cy D B 0 0 Q 4 [(0, .ref (B + oMd)), (1, .int a4.1), (2, .int a4.2)] [] σ μ ω) (K := fun (b4 : Int32) => X p l e R s m args below meth c 3 cy D B 0 0 Q 55 [(1, .int b4)] [] σ μ ω) ?_ 5000 ((0 : Int32), (0 : Int32)) b4 hk11 ?_
  · intro a4 r h hA1 hB2
    unfold stX6_walksCost_4 at h
    refine x_iload_n C dX6_walksCost_4 rfl 2 rfl ?_
    refine x_aload_n C dX6_walksCost_5 rfl 0 rfl ?_
    refine x_bipush C (v := 37) dX6_walksCost_6 (by decide) ?_
    obtain ⟨q1, hk3, h⟩ := Option.bind_eq_some_iff.mp h
    refine x_callV C (As := [.int (37 : Int32)]) (rest := [.int a4.2]) (lw_g_mk tw_1296 rfl) (lw_g_mk tsel_31 rfl) (c_Md) (C1 := "HostelBedsModel") (T := TX6) (N := 27) (ci := 6) rfl (okX6_get l cy D B ek (37 : Int32) σ μ ω _ hk3) rfl rfl (by rw [hR9]; decide) (lw_g_mk tw_1297 rfl) (lw_g_mk tw_7 rfl) (by decide) rfl (lw_g_mk tw_1294 rfl) rfl (Nat.le_of_ble_eq_true rfl) dX6_walksCost_8 (by rw [hR9]; decide) ?_
    refine x_icmp_ge C (tgt := 55) dX6_walksCost_11 (by decide) (fun hc4 => ?_) (fun hc4 => ?_)
    · rw [if_pos hc4] at h
      cases h
      refine x_sub [1] rfl ?_
      exact hB2 a4.1 rfl
    · rw [if_neg hc4] at h
      refine x_iload_n C dX6_walksCost_14 rfl 1 rfl ?_
      refine x_aload_n C dX6_walksCost_15 rfl 0 rfl ?_
      refine x_get C (C1 := "HostelBedsModel") (T := TX6) (N := 27) (ci := 6) inXg6 _ (c_Md) rfl 22 (by decide) (lw_g_mk tw_1153 rfl) rfl dX6_walksCost_16 ?_
      refine x_iload_n C dX6_walksCost_19 rfl 2 rfl ?_
      obtain ⟨hg5, h⟩ := gd_some h
      refine x_iald C _ (c_Bec) hg5 dX6_walksCost_20 ?_
      refine x_iconst C (v := 3) dX6_walksCost_21 (by decide) ?_
      have hJ6 : ∀ (t2 : Int32) (r9 : (Int32 × Int32) ⊕ (Int32)), jX6_walksCost_47 a4 t2 = some r9 → (∀ a2, r9 = .inl a2 → (fun (a4 : Int32 × Int32) => X p l e R s m args below meth c 3 cy D B 0 0 Q 4 [(0, .ref (B + oMd)), (1, .int a4.1), (2, .int a4.2)] [] σ μ ω) a2) → (∀ b2, r9 = .inr b2 → (fun (b4 : Int32) => X p l e R s m args below meth c 3 cy D B 0 0 Q 55 [(1, .int b4)] [] σ μ ω) b2) → X p l e R s m args below meth c 3 cy D B 0 0 Q 47 [(0, .ref (B + oMd)), (2, .int a4.2)] [.int t2, .int a4.1] σ μ ω := by
        intro t2 r h hA1 hB2
        unfold jX6_walksCost_47 at h
        refine x_iadd C dX6_walksCost_47 ?_
        refine x_istore_n C [(1, .int (a4.1 + t2)), (0, .ref (B + oMd)), (2, .int a4.2)] dX6_walksCost_48 rfl (by decide) rfl ?_
        refine x_iinc C (k := 2) [(2, .int (a4.2 + (1 : Int32))), (1, .int (a4.1 + t2)), (0, .ref (B + oMd))] dX6_walksCost_49 rfl rfl (by decide) rfl ?_
        refine x_goto C (tgt := 4) dX6_walksCost_52 (by decide) ?_
        cases h
        refine x_sub [2, 1, 0] rfl ?_
        exact hA1 (a4.1 + t2, a4.2 + (1 : Int32)) rfl
      refine x_icmp_ne C (tgt := 46) dX6_walksCost_22 (by decide) (fun hc7 => ?_) (fun hc7 => ?_)
      · rw [if_pos hc7] at h
        refine x_iconst C (v := 0) dX6_walksCost_46 (by decide) ?_
        refine x_sub [0, 2] rfl ?_
        exact hJ6 (0 : Int32) _ h hA1 hB2
      · rw [if_neg hc7] at h
        refine x_aload_n C dX6_walksCost_25 rfl 0 rfl ?_
        refine x_iconst C (v := 1) dX6_walksCost_26 (by decide) ?_
        obtain ⟨q3, hk8, h⟩ := Option.bind_eq_some_iff.mp h
        refine x_callV C (As := [.int (1 : Int32)]) (rest := [.int a4.1]) (lw_g_mk tw_1296 rfl) (lw_g_mk tsel_31 rfl) (c_Md) (C1 := "HostelBedsModel") (T := TX6) (N := 27) (ci := 6) rfl (okX6_get l cy D B ek (1 : Int32) σ μ ω _ hk8) rfl rfl (by rw [hR9]; decide) (lw_g_mk tw_1297 rfl) (lw_g_mk tw_7 rfl) (by decide) rfl (lw_g_mk tw_1294 rfl) rfl (Nat.le_of_ble_eq_true rfl) dX6_walksCost_27 (by rw [hR9]; decide) ?_
        refine x_aload_n C dX6_walksCost_30 rfl 0 rfl ?_
        refine x_iload_n C dX6_walksCost_31 rfl 2 rfl ?_
        obtain ⟨q4, hk9, h⟩ := Option.bind_eq_some_iff.mp h
        refine x_callV C (As := [.int a4.2]) (rest := [.int q3, .int a4.1]) (lw_g_mk tw_1375 rfl) (lw_g_mk tsel_50 rfl) (c_Md) (C1 := "HostelBedsModel") (T := TX6) (N := 27) (ci := 6) rfl (okX6_persons l cy D B ek a4.2 σ μ ω _ hk9) rfl rfl (by rw [hR9]; decide) (lw_g_mk tw_1376 rfl) (lw_g_mk tw_7 rfl) (by decide) rfl (lw_g_mk tw_1373 rfl) rfl (Nat.le_of_ble_eq_true rfl) dX6_walksCost_32 (by rw [hR9]; decide) ?_
        refine x_imul C dX6_walksCost_35 ?_
        refine x_aload_n C dX6_walksCost_36 rfl 0 rfl ?_
        refine x_iload_n C dX6_walksCost_37 rfl 2 rfl ?_
        refine x_iconst C (v := 1) dX6_walksCost_38 (by decide) ?_
        obtain ⟨q5, hk10, h⟩ := Option.bind_eq_some_iff.mp h
        refine x_callV C (As := [.int a4.2, .int (1 : Int32)]) (rest := [.int (q3 * q4), .int a4.1]) (lw_g_mk tw_1367 rfl) (lw_g_mk tsel_48 rfl) (c_Md) (C1 := "HostelBedsModel") (T := TX6) (N := 27) (ci := 6) rfl (okX6_of l cy D B ek a4.2 (1 : Int32) σ μ ω _ hk10) rfl rfl (by rw [hR9]; decide) (lw_g_mk tw_1368 rfl) (lw_g_mk tw_7 rfl) (by decide) rfl (lw_g_mk tw_1365 rfl) rfl (Nat.le_of_ble_eq_true rfl) dX6_walksCost_39 (by rw [hR9]; decide) ?_
        refine x_imul C dX6_walksCost_42 ?_
        refine x_goto C (tgt := 47) dX6_walksCost_43 (by decide) ?_
        refine x_sub [0, 2] rfl ?_
        exact hJ6 ((q3 * q4) * q5) _ h hA1 hB2
  · show X p l e R s m args below meth c 3 cy D B 0 0 Q 55 [(1, .int b4)] [] σ μ ω
    refine x_iload_n C dX6_walksCost_55 rfl 0 rfl ?_
    cases h
    exact hret _ _ dX6_walksCost_56 rfl
def fX6_walkCost (μ : Mem) : Option (Int32 × Mem) := ((fX6_placesAll (wI μ 60 0 0 (0 : Int32))).bind fun q1 => ((fX6_walksCost q1).bind fun q2 => (some (q2, q1))))
set_option maxHeartbeats 4000000 in
set_option maxRecDepth 100000 in
theorem okX6_walkCost (l : Launch) (cy : Nat → ClassId) (D : va_G) (B : Nat) (ek : EK) (σ μ ω : Mem) (res : Int32 × Mem) (h : fX6_walkCost μ = some res) : CT l cy D B ek yX6_walkCost cX6_walkCost 1 (some .int) ({ frames := 8, cells := 0, slots := 0, locals := 185 } : Room) [.ref (B + oMd)] σ μ ω (some (.int res.1)) σ res.2 ω := by
  refine met_X (own := "HostelBedsModel") (by decide) rfl (Nat.le_of_ble_eq_true rfl) ?_
  intro p e s m args below meth c C hrT hlk
  have hret : ∀ (pc9 : Nat) (lcs9 : List (Nat × Value)), decode cX6_walkCost pc9 = .ok (.ireturn, 1) → narrow .int (.int res.1) = .int res.1 → X p l e ({ frames := 8, cells := 0, slots := 0, locals := 185 } : Room) s m args below meth c 1 cy D B 0 0 (MQ below (QR cy D B (some (.int res.1)) σ res.2 ω) args s 0 0 (aB B)) pc9 lcs9 [.int res.1] σ res.2 ω := fun _ _ hd hn => x_zret C hrT hlk hn hd
  generalize (MQ below (QR cy D B (some (.int res.1)) σ res.2 ω) args s 0 0 (aB B)) = Q at hret ⊢
  obtain ⟨R, hR9⟩ : ∃ R : Room, R = ({ frames := 8, cells := 0, slots := 0, locals := 185 } : Room) := ⟨_, rfl⟩
  rw [← hR9] at hret ⊢
  unfold fX6_walkCost at h
  show X p l e R s m args below meth c 1 cy D B 0 0 Q 0 [(0, .ref (B + oMd))] [] σ μ ω
  refine x_aload_n C dX6_walkCost_0 rfl 0 rfl ?_
  refine x_iconst C (v := 0) dX6_walkCost_1 (by decide) ?_
  refine x_put C (C1 := "HostelBedsModel") (T := TX6) (N := 27) (ci := 6) inXg6 tyX6 tyX6_ok nmX6 _ (c_Md) rfl 0 (by decide) (lw_g_mk tw_1131 rfl) rfl rfl rfl rfl (Nat.le_of_ble_eq_true rfl) dX6_walkCost_2 (s_Md_thrown) ?_
  refine x_aload_n C dX6_walkCost_5 rfl 0 rfl ?_
  obtain ⟨q1, hk1, h⟩ := Option.bind_eq_some_iff.mp h
  refine x_callV C (As := []) (rest := []) (lw_g_mk tw_1451 rfl) (lw_g_mk tsel_60 rfl) (c_Md) (C1 := "HostelBedsModel") (T := TX6) (N := 27) (ci := 6) rfl (okX6_placesAll l cy D B ek σ (wI μ 60 0 0 (0 : Int32)) ω _ hk1) rfl rfl (by rw [hR9]; decide) (lw_g_mk tw_1452 rfl) (lw_g_mk tw_7 rfl) (by decide) rfl (lw_g_mk tw_1449 rfl) rfl (Nat.le_of_ble_eq_true rfl) dX6_walkCost_6 (by rw [hR9]; decide) ?_
  refine x_aload_n C dX6_walkCost_9 rfl 0 rfl ?_
  obtain ⟨q2, hk2, h⟩ := Option.bind_eq_some_iff.mp h
  refine x_callV C (As := []) (rest := []) (lw_g_mk tw_1600 rfl) (lw_g_mk tsel_81 rfl) (c_Md) (C1 := "HostelBedsModel") (T := TX6) (N := 27) (ci := 6) rfl (okX6_walksCost l cy D B ek σ q1 ω _ hk2) rfl rfl (by rw [hR9]; decide) (lw_g_mk tw_1601 rfl) (lw_g_mk tw_7 rfl) (by decide) rfl (lw_g_mk tw_1598 rfl) rfl (Nat.le_of_ble_eq_true rfl) dX6_walkCost_10 (by rw [hR9]; decide) ?_
  cases h
  exact hret _ _ dX6_walkCost_13 rfl
def stX6_netNow_12 (q1 : Mem) (a12 : Int32 × Int32) : Option ((Int32 × Int32) ⊕ (Int32)) := ((fX6_get (37 : Int32) q1).bind fun q3 => (if q3 ≤ a12.2 then (some (.inr a12.1)) else ((fX6_paidBy a12.2 q1).bind fun q4 => (some (.inl (a12.1 + q4, a12.2 + (1 : Int32)))))))
def fX6_netNow (μ : Mem) : Option (Int32 × Mem) := ((fX6_placesAll μ).bind fun q1 => ((fX6_walksCost q1).bind fun q2 => ((loop (stX6_netNow_12 q1) 5000 (-q2, (0 : Int32))).bind fun b12 => (some (b12, q1)))))
set_option maxHeartbeats 4000000 in
set_option maxRecDepth 100000 in
theorem okX6_netNow (l : Launch) (cy : Nat → ClassId) (D : va_G) (B : Nat) (ek : EK) (σ μ ω : Mem) (res : Int32 × Mem) (h : fX6_netNow μ = some res) : CT l cy D B ek yX6_netNow cX6_netNow 3 (some .int) ({ frames := 8, cells := 0, slots := 0, locals := 185 } : Room) [.ref (B + oMd)] σ μ ω (some (.int res.1)) σ res.2 ω := by
  refine met_X (own := "HostelBedsModel") (by decide) rfl (Nat.le_of_ble_eq_true rfl) ?_
  intro p e s m args below meth c C hrT hlk
  have hret : ∀ (pc9 : Nat) (lcs9 : List (Nat × Value)), decode cX6_netNow pc9 = .ok (.ireturn, 1) → narrow .int (.int res.1) = .int res.1 → X p l e ({ frames := 8, cells := 0, slots := 0, locals := 185 } : Room) s m args below meth c 3 cy D B 0 0 (MQ below (QR cy D B (some (.int res.1)) σ res.2 ω) args s 0 0 (aB B)) pc9 lcs9 [.int res.1] σ res.2 ω := fun _ _ hd hn => x_zret C hrT hlk hn hd
  generalize (MQ below (QR cy D B (some (.int res.1)) σ res.2 ω) args s 0 0 (aB B)) = Q at hret ⊢
  obtain ⟨R, hR9⟩ : ∃ R : Room, R = ({ frames := 8, cells := 0, slots := 0, locals := 185 } : Room) := ⟨_, rfl⟩
  rw [← hR9] at hret ⊢
  unfold fX6_netNow at h
  show X p l e R s m args below meth c 3 cy D B 0 0 Q 0 [(0, .ref (B + oMd))] [] σ μ ω
  refine x_aload_n C dX6_netNow_0 rfl 0 rfl ?_
  obtain ⟨q1, hk1, h⟩ := Option.bind_eq_some_iff.mp h
  refine x_callV C (As := []) (rest := []) (lw_g_mk tw_1451 rfl) (lw_g_mk tsel_60 rfl) (c_Md) (C1 := "HostelBedsModel") (T := TX6) (N := 27) (ci := 6) rfl (okX6_placesAll l cy D B ek σ μ ω _ hk1) rfl rfl (by rw [hR9]; decide) (lw_g_mk tw_1452 rfl) (lw_g_mk tw_7 rfl) (by decide) rfl (lw_g_mk tw_1449 rfl) rfl (Nat.le_of_ble_eq_true rfl) dX6_netNow_1 (by rw [hR9]; decide) ?_
  refine x_aload_n C dX6_netNow_4 rfl 0 rfl ?_
  obtain ⟨q2, hk2, h⟩ := Option.bind_eq_some_iff.mp h
  refine x_callV C (As := []) (rest := []) (lw_g_mk tw_1600 rfl) (lw_g_mk tsel_81 rfl) (c_Md) (C1 := "HostelBedsModel") (T := TX6) (N := 27) (ci := 6) rfl (okX6_walksCost l cy D B ek σ q1 ω _ hk2) rfl rfl (by rw [hR9]; decide) (lw_g_mk tw_1601 rfl) (lw_g_mk tw_7 rfl) (by decide) rfl (lw_g_mk tw_1598 rfl) rfl (Nat.le_of_ble_eq_true rfl) dX6_netNow_5 (by rw [hR9]; decide) ?_
  refine x_ineg C dX6_netNow_8 ?_
  refine x_istore_n C [(1, .int (-q2)), (0, .ref (B + oMd))] dX6_netNow_9 rfl (by decide) rfl ?_
  refine x_iconst C (v := 0) dX6_netNow_10 (by decide) ?_
  refine x_istore_n C [(2, .int (0 : Int32)), (1, .int (-q2)), (0, .ref (B + oMd))] dX6_netNow_11 rfl (by decide) rfl ?_
  obtain ⟨b12, hk8, h⟩ := Option.bind_eq_some_iff.mp h
  refine x_sub [2, 1, 0] rfl ?_
  refine loop_run (step := stX6_netNow_12 q1) (P := fun (a12 : Int32 × Int32) => X p l e R s m args below meth c 3 cy D B 0 0 Q 12 [(0, .ref (B + oMd)), (1, .int a12.1), (2, .int a12.2)] [] σ q1 ω) (K := fun (b12 : Int32) => X p l e R s m args below meth c 3 cy D B 0 0 Q 36 [(1, .int b12)] [] σ q1 ω) ?_ 5000 (-q2, (0 : Int32)) b12 hk8 ?_
  · intro a12 r h hA3 hB4
    unfold stX6_netNow_12 at h
    refine x_iload_n C dX6_netNow_12 rfl 2 rfl ?_
    refine x_aload_n C dX6_netNow_13 rfl 0 rfl ?_
    refine x_bipush C (v := 37) dX6_netNow_14 (by decide) ?_
    obtain ⟨q3, hk5, h⟩ := Option.bind_eq_some_iff.mp h
    refine x_callV C (As := [.int (37 : Int32)]) (rest := [.int a12.2]) (lw_g_mk tw_1296 rfl) (lw_g_mk tsel_31 rfl) (c_Md) (C1 := "HostelBedsModel") (T := TX6) (N := 27) (ci := 6) rfl (okX6_get l cy D B ek (37 : Int32) σ q1 ω _ hk5) rfl rfl (by rw [hR9]; decide) (lw_g_mk tw_1297 rfl) (lw_g_mk tw_7 rfl) (by decide) rfl (lw_g_mk tw_1294 rfl) rfl (Nat.le_of_ble_eq_true rfl) dX6_netNow_16 (by rw [hR9]; decide) ?_
    refine x_icmp_ge C (tgt := 36) dX6_netNow_19 (by decide) (fun hc6 => ?_) (fun hc6 => ?_)
    · rw [if_pos hc6] at h
      cases h
      refine x_sub [1] rfl ?_
      exact hB4 a12.1 rfl
    · rw [if_neg hc6] at h
      refine x_iload_n C dX6_netNow_22 rfl 1 rfl ?_
      refine x_aload_n C dX6_netNow_23 rfl 0 rfl ?_
      refine x_iload_n C dX6_netNow_24 rfl 2 rfl ?_
      obtain ⟨q4, hk7, h⟩ := Option.bind_eq_some_iff.mp h
      refine x_callV C (As := [.int a12.2]) (rest := [.int a12.1]) (lw_g_mk tw_1592 rfl) (lw_g_mk tsel_80 rfl) (c_Md) (C1 := "HostelBedsModel") (T := TX6) (N := 27) (ci := 6) rfl (okX6_paidBy l cy D B ek a12.2 σ q1 ω _ hk7) rfl rfl (by rw [hR9]; decide) (lw_g_mk tw_1593 rfl) (lw_g_mk tw_7 rfl) (by decide) rfl (lw_g_mk tw_1590 rfl) rfl (Nat.le_of_ble_eq_true rfl) dX6_netNow_25 (by rw [hR9]; decide) ?_
      refine x_iadd C dX6_netNow_28 ?_
      refine x_istore_n C [(1, .int (a12.1 + q4)), (0, .ref (B + oMd)), (2, .int a12.2)] dX6_netNow_29 rfl (by decide) rfl ?_
      refine x_iinc C (k := 2) [(2, .int (a12.2 + (1 : Int32))), (1, .int (a12.1 + q4)), (0, .ref (B + oMd))] dX6_netNow_30 rfl rfl (by decide) rfl ?_
      refine x_goto C (tgt := 12) dX6_netNow_33 (by decide) ?_
      cases h
      refine x_sub [2, 1, 0] rfl ?_
      exact hA3 (a12.1 + q4, a12.2 + (1 : Int32)) rfl
  · show X p l e R s m args below meth c 3 cy D B 0 0 Q 36 [(1, .int b12)] [] σ q1 ω
    refine x_iload_n C dX6_netNow_36 rfl 0 rfl ?_
    cases h
    exact hret _ _ dX6_netNow_37 rfl
def fX6_net (μ : Mem) : Option (Int32 × Mem) := ((fX6_netNow (wI μ 60 0 0 (0 : Int32))).bind fun q1 => (some (q1.1, q1.2)))
set_option maxHeartbeats 4000000 in
set_option maxRecDepth 100000 in
theorem okX6_net (l : Launch) (cy : Nat → ClassId) (D : va_G) (B : Nat) (ek : EK) (σ μ ω : Mem) (res : Int32 × Mem) (h : fX6_net μ = some res) : CT l cy D B ek yX6_net cX6_net 1 (some .int) ({ frames := 9, cells := 0, slots := 0, locals := 207 } : Room) [.ref (B + oMd)] σ μ ω (some (.int res.1)) σ res.2 ω := by
  refine met_X (own := "HostelBedsModel") (by decide) rfl (Nat.le_of_ble_eq_true rfl) ?_
  intro p e s m args below meth c C hrT hlk
  have hret : ∀ (pc9 : Nat) (lcs9 : List (Nat × Value)), decode cX6_net pc9 = .ok (.ireturn, 1) → narrow .int (.int res.1) = .int res.1 → X p l e ({ frames := 9, cells := 0, slots := 0, locals := 207 } : Room) s m args below meth c 1 cy D B 0 0 (MQ below (QR cy D B (some (.int res.1)) σ res.2 ω) args s 0 0 (aB B)) pc9 lcs9 [.int res.1] σ res.2 ω := fun _ _ hd hn => x_zret C hrT hlk hn hd
  generalize (MQ below (QR cy D B (some (.int res.1)) σ res.2 ω) args s 0 0 (aB B)) = Q at hret ⊢
  obtain ⟨R, hR9⟩ : ∃ R : Room, R = ({ frames := 9, cells := 0, slots := 0, locals := 207 } : Room) := ⟨_, rfl⟩
  rw [← hR9] at hret ⊢
  unfold fX6_net at h
  show X p l e R s m args below meth c 1 cy D B 0 0 Q 0 [(0, .ref (B + oMd))] [] σ μ ω
  refine x_aload_n C dX6_net_0 rfl 0 rfl ?_
  refine x_iconst C (v := 0) dX6_net_1 (by decide) ?_
  refine x_put C (C1 := "HostelBedsModel") (T := TX6) (N := 27) (ci := 6) inXg6 tyX6 tyX6_ok nmX6 _ (c_Md) rfl 0 (by decide) (lw_g_mk tw_1131 rfl) rfl rfl rfl rfl (Nat.le_of_ble_eq_true rfl) dX6_net_2 (s_Md_thrown) ?_
  refine x_aload_n C dX6_net_5 rfl 0 rfl ?_
  obtain ⟨q1, hk1, h⟩ := Option.bind_eq_some_iff.mp h
  refine x_callV C (As := []) (rest := []) (lw_g_mk tw_1608 rfl) (lw_g_mk tsel_82 rfl) (c_Md) (C1 := "HostelBedsModel") (T := TX6) (N := 27) (ci := 6) rfl (okX6_netNow l cy D B ek σ (wI μ 60 0 0 (0 : Int32)) ω _ hk1) rfl rfl (by rw [hR9]; decide) (lw_g_mk tw_1609 rfl) (lw_g_mk tw_7 rfl) (by decide) rfl (lw_g_mk tw_1606 rfl) rfl (Nat.le_of_ble_eq_true rfl) dX6_net_6 (by rw [hR9]; decide) ?_
  cases h
  exact hret _ _ dX6_net_9 rfl
def jX6_laysChances_25 (a2 : Int32 × Mem) (t1 : UInt64) : Option ((Int32 × Mem) ⊕ (Mem)) := (gd (inb a2.1 205) (some (.inl (a2.1 + (1 : Int32), wD a2.2 1 0 a2.1.toNatClampNeg t1))))
def stX6_laysChances_2 (a2 : Int32 × Mem) : Option ((Int32 × Mem) ⊕ (Mem)) := (if (205 : Int32) ≤ a2.1 then (some (.inr a2.2)) else (if ¬ a2.1 = 0 then (jX6_laysChances_25 a2 FP.dconst0) else (jX6_laysChances_25 a2 FP.dconst1)))
def jX6_laysChances_148 (a34 : Int32 × Mem) (μ4 : Mem) : Option ((Int32 × Mem) ⊕ (Mem)) := (some (.inl (a34.1 + (1 : Int32), μ4)))
def jX6_laysChances_138 (q6 : Int32) (a95 : Int32 × Mem) (t8 : UInt64) : Option ((Int32 × Mem) ⊕ (Mem)) := (gd (n64 (FP.dmul t8 (FP.ddiv (FP.i2d q6) (4636737291354636288 : UInt64)))) (gd (n64 (FP.dadd (FP.dmul (rD a95.2 1 0 a95.1.toNatClampNeg) (FP.dsub FP.dconst1 (FP.ddiv (FP.i2d q6) (4636737291354636288 : UInt64)))) (FP.dmul t8 (FP.ddiv (FP.i2d q6) (4636737291354636288 : UInt64))))) (some (.inl (a95.1 + (-1 : Int32), wD a95.2 1 0 a95.1.toNatClampNeg (FP.dadd (FP.dmul (rD a95.2 1 0 a95.1.toNatClampNeg) (FP.dsub FP.dconst1 (FP.ddiv (FP.i2d q6) (4636737291354636288 : UInt64)))) (FP.dmul t8 (FP.ddiv (FP.i2d q6) (4636737291354636288 : UInt64)))))))))
def stX6_laysChances_95 (q6 : Int32) (q7 : Int32) (a95 : Int32 × Mem) : Option ((Int32 × Mem) ⊕ (Mem)) := (if a95.1 < 0 then (some (.inr a95.2)) else (gd (inb a95.1 205) (gd (n64 (FP.dsub FP.dconst1 (FP.ddiv (FP.i2d q6) (4636737291354636288 : UInt64)))) (gd (n64 (FP.dmul (rD a95.2 1 0 a95.1.toNatClampNeg) (FP.dsub FP.dconst1 (FP.ddiv (FP.i2d q6) (4636737291354636288 : UInt64))))) (if q7 ≤ a95.1 then (gd (inb (a95.1 - q7) 205) (jX6_laysChances_138 q6 a95 (rD a95.2 1 0 (a95.1 - q7).toNatClampNeg))) else (jX6_laysChances_138 q6 a95 FP.dconst0))))))
def stX6_laysChances_34 (p1 : Int32) (a34 : Int32 × Mem) : Option ((Int32 × Mem) ⊕ (Mem)) := ((fX6_get (37 : Int32) a34.2).bind fun q2 => (if q2 ≤ a34.1 then (some (.inr a34.2)) else ((fX6_of a34.1 (8 : Int32) a34.2).bind fun q3 => (if ¬ q3 = (1 : Int32) then (jX6_laysChances_148 a34 a34.2) else ((fX6_staysIn a34.1 p1 a34.2).bind fun q5 => (if ¬ q5 = 0 then ((fX6_of a34.1 (5 : Int32) a34.2).bind fun q6 => (gd (n64 (FP.ddiv (FP.i2d q6) (4636737291354636288 : UInt64))) ((fX6_persons a34.1 a34.2).bind fun q7 => ((loop (stX6_laysChances_95 q6 q7) 5000 ((205 : Int32) - (1 : Int32), a34.2)).bind fun b95 => (jX6_laysChances_148 a34 b95))))) else (jX6_laysChances_148 a34 a34.2)))))))
def fX6_laysChances (p1 : Int32) (μ : Mem) : Option (Mem) := ((loop (stX6_laysChances_2) 5000 ((0 : Int32), μ)).bind fun b2 => ((loop (stX6_laysChances_34 p1) 5000 ((0 : Int32), b2)).bind fun b34 => (some b34)))
set_option maxHeartbeats 4000000 in
set_option maxRecDepth 100000 in
theorem okX6_laysChances (l : Launch) (cy : Nat → ClassId) (D : va_G) (B : Nat) (ek : EK) (p1 : Int32) (σ μ ω : Mem) (res : Mem) (h : fX6_laysChances p1 μ = some res) : CT l cy D B ek yX6_laysChances cX6_laysChances 7 none ({ frames := 3, cells := 0, slots := 0, locals := 65 } : Room) [.ref (B + oMd), .int p1] σ μ ω none σ res ω := by
  refine met_X (own := "HostelBedsModel") (by decide) rfl (Nat.le_of_ble_eq_true rfl) ?_
  intro p e s m args below meth c C hrT hlk
  have hret : ∀ (pc9 : Nat) (lcs9 : List (Nat × Value)), decode cX6_laysChances pc9 = .ok (.return_, 1) → X p l e ({ frames := 3, cells := 0, slots := 0, locals := 65 } : Room) s m args below meth c 7 cy D B 0 0 (MQ below (QR cy D B none σ res ω) args s 0 0 (aB B)) pc9 lcs9 [] σ res ω := fun _ _ hd => x_vret C hrT hlk hd
  generalize (MQ below (QR cy D B none σ res ω) args s 0 0 (aB B)) = Q at hret ⊢
  obtain ⟨R, hR9⟩ : ∃ R : Room, R = ({ frames := 3, cells := 0, slots := 0, locals := 65 } : Room) := ⟨_, rfl⟩
  rw [← hR9] at hret ⊢
  unfold fX6_laysChances at h
  show X p l e R s m args below meth c 7 cy D B 0 0 Q 0 [(0, .ref (B + oMd)), (1, .int p1)] [] σ μ ω
  refine x_iconst C (v := 0) dX6_laysChances_0 (by decide) ?_
  refine x_istore_n C [(2, .int (0 : Int32)), (0, .ref (B + oMd)), (1, .int p1)] dX6_laysChances_1 rfl (by decide) rfl ?_
  obtain ⟨b2, hk7, h⟩ := Option.bind_eq_some_iff.mp h
  refine x_sub [1, 2, 0] rfl ?_
  refine loop_run (step := stX6_laysChances_2) (P := fun (a2 : Int32 × Mem) => X p l e R s m args below meth c 7 cy D B 0 0 Q 2 [(0, .ref (B + oMd)), (1, .int p1), (2, .int a2.1)] [] σ a2.2 ω) (K := fun (b2 : Mem) => X p l e R s m args below meth c 7 cy D B 0 0 Q 32 [(0, .ref (B + oMd)), (1, .int p1)] [] σ b2 ω) ?_ 5000 ((0 : Int32), μ) b2 hk7 ?_
  · intro a2 r h hA1 hB2
    unfold stX6_laysChances_2 at h
    refine x_iload_n C dX6_laysChances_2 rfl 2 rfl ?_
    refine x_aload_n C dX6_laysChances_3 rfl 0 rfl ?_
    refine x_get C (C1 := "HostelBedsModel") (T := TX6) (N := 27) (ci := 6) inXg6 _ (c_Md) rfl 26 (by decide) (lw_g_mk tw_1157 rfl) rfl dX6_laysChances_4 ?_
    refine x_alen C _ 4 (c_Ch) rfl (v := 205) rfl dX6_laysChances_7 ?_
    refine x_icmp_ge C (tgt := 32) dX6_laysChances_8 (by decide) (fun hc3 => ?_) (fun hc3 => ?_)
    · rw [if_pos hc3] at h
      cases h
      refine x_sub [0, 1] rfl ?_
      exact hB2 a2.2 rfl
    · rw [if_neg hc3] at h
      refine x_aload_n C dX6_laysChances_11 rfl 0 rfl ?_
      refine x_get C (C1 := "HostelBedsModel") (T := TX6) (N := 27) (ci := 6) inXg6 _ (c_Md) rfl 26 (by decide) (lw_g_mk tw_1157 rfl) rfl dX6_laysChances_12 ?_
      refine x_iload_n C dX6_laysChances_15 rfl 2 rfl ?_
      refine x_iload_n C dX6_laysChances_16 rfl 2 rfl ?_
      have hJ5 : ∀ (t1 : UInt64) (r9 : (Int32 × Mem) ⊕ (Mem)), jX6_laysChances_25 a2 t1 = some r9 → (∀ a2, r9 = .inl a2 → (fun (a2 : Int32 × Mem) => X p l e R s m args below meth c 7 cy D B 0 0 Q 2 [(0, .ref (B + oMd)), (1, .int p1), (2, .int a2.1)] [] σ a2.2 ω) a2) → (∀ b2, r9 = .inr b2 → (fun (b2 : Mem) => X p l e R s m args below meth c 7 cy D B 0 0 Q 32 [(0, .ref (B + oMd)), (1, .int p1)] [] σ b2 ω) b2) → X p l e R s m args below meth c 7 cy D B 0 0 Q 25 [(0, .ref (B + oMd)), (1, .int p1), (2, .int a2.1)] [.double t1, .int a2.1, .ref (B + oCh)] σ a2.2 ω := by
        intro t1 r h hA1 hB2
        unfold jX6_laysChances_25 at h
        obtain ⟨hg4, h⟩ := gd_some h
        refine x_dast C _ (c_Ch) hg4 dX6_laysChances_25 (s_Ch) ?_
        refine x_iinc C (k := 2) [(2, .int (a2.1 + (1 : Int32))), (0, .ref (B + oMd)), (1, .int p1)] dX6_laysChances_26 rfl rfl (by decide) rfl ?_
        refine x_goto C (tgt := 2) dX6_laysChances_29 (by decide) ?_
        cases h
        refine x_sub [1, 2, 0] rfl ?_
        exact hA1 (a2.1 + (1 : Int32), wD a2.2 1 0 a2.1.toNatClampNeg t1) rfl
      refine x_if_ne C (tgt := 24) dX6_laysChances_17 (by decide) (fun hc6 => ?_) (fun hc6 => ?_)
      · rw [if_pos hc6] at h
        refine x_dconst0 C dX6_laysChances_24 ?_
        exact hJ5 FP.dconst0 _ h hA1 hB2
      · rw [if_neg hc6] at h
        refine x_dconst1 C dX6_laysChances_20 ?_
        refine x_goto C (tgt := 25) dX6_laysChances_21 (by decide) ?_
        exact hJ5 FP.dconst1 _ h hA1 hB2
  · show X p l e R s m args below meth c 7 cy D B 0 0 Q 32 [(0, .ref (B + oMd)), (1, .int p1)] [] σ b2 ω
    refine x_iconst C (v := 0) dX6_laysChances_32 (by decide) ?_
    refine x_istore_n C [(2, .int (0 : Int32)), (0, .ref (B + oMd)), (1, .int p1)] dX6_laysChances_33 rfl (by decide) rfl ?_
    obtain ⟨b34, hk32, h⟩ := Option.bind_eq_some_iff.mp h
    refine x_sub [1, 2, 0] rfl ?_
    refine loop_run (step := stX6_laysChances_34 p1) (P := fun (a34 : Int32 × Mem) => X p l e R s m args below meth c 7 cy D B 0 0 Q 34 [(0, .ref (B + oMd)), (1, .int p1), (2, .int a34.1)] [] σ a34.2 ω) (K := fun (b34 : Mem) => X p l e R s m args below meth c 7 cy D B 0 0 Q 154 [] [] σ b34 ω) ?_ 5000 ((0 : Int32), b2) b34 hk32 ?_
    · intro a34 r h hA8 hB9
      unfold stX6_laysChances_34 at h
      refine x_iload_n C dX6_laysChances_34 rfl 2 rfl ?_
      refine x_aload_n C dX6_laysChances_35 rfl 0 rfl ?_
      refine x_bipush C (v := 37) dX6_laysChances_36 (by decide) ?_
      obtain ⟨q2, hk10, h⟩ := Option.bind_eq_some_iff.mp h
      refine x_callV C (As := [.int (37 : Int32)]) (rest := [.int a34.1]) (lw_g_mk tw_1296 rfl) (lw_g_mk tsel_31 rfl) (c_Md) (C1 := "HostelBedsModel") (T := TX6) (N := 27) (ci := 6) rfl (okX6_get l cy D B ek (37 : Int32) σ a34.2 ω _ hk10) rfl rfl (by rw [hR9]; decide) (lw_g_mk tw_1297 rfl) (lw_g_mk tw_7 rfl) (by decide) rfl (lw_g_mk tw_1294 rfl) rfl (Nat.le_of_ble_eq_true rfl) dX6_laysChances_38 (by rw [hR9]; decide) ?_
      refine x_icmp_ge C (tgt := 154) dX6_laysChances_41 (by decide) (fun hc11 => ?_) (fun hc11 => ?_)
      · rw [if_pos hc11] at h
        cases h
        refine x_sub [] rfl ?_
        exact hB9 a34.2 rfl
      · rw [if_neg hc11] at h
        refine x_aload_n C dX6_laysChances_44 rfl 0 rfl ?_
        refine x_iload_n C dX6_laysChances_45 rfl 2 rfl ?_
        refine x_bipush C (v := 8) dX6_laysChances_46 (by decide) ?_
        obtain ⟨q3, hk12, h⟩ := Option.bind_eq_some_iff.mp h
        refine x_callV C (As := [.int a34.1, .int (8 : Int32)]) (rest := []) (lw_g_mk tw_1367 rfl) (lw_g_mk tsel_48 rfl) (c_Md) (C1 := "HostelBedsModel") (T := TX6) (N := 27) (ci := 6) rfl (okX6_of l cy D B ek a34.1 (8 : Int32) σ a34.2 ω _ hk12) rfl rfl (by rw [hR9]; decide) (lw_g_mk tw_1368 rfl) (lw_g_mk tw_7 rfl) (by decide) rfl (lw_g_mk tw_1365 rfl) rfl (Nat.le_of_ble_eq_true rfl) dX6_laysChances_48 (by rw [hR9]; decide) ?_
        refine x_iconst C (v := 1) dX6_laysChances_51 (by decide) ?_
        have hJ13 : ∀ (μ4 : Mem) (r9 : (Int32 × Mem) ⊕ (Mem)), jX6_laysChances_148 a34 μ4 = some r9 → (∀ a2, r9 = .inl a2 → (fun (a34 : Int32 × Mem) => X p l e R s m args below meth c 7 cy D B 0 0 Q 34 [(0, .ref (B + oMd)), (1, .int p1), (2, .int a34.1)] [] σ a34.2 ω) a2) → (∀ b2, r9 = .inr b2 → (fun (b34 : Mem) => X p l e R s m args below meth c 7 cy D B 0 0 Q 154 [] [] σ b34 ω) b2) → X p l e R s m args below meth c 7 cy D B 0 0 Q 148 [(0, .ref (B + oMd)), (1, .int p1), (2, .int a34.1)] [] σ μ4 ω := by
          intro μ4 r h hA8 hB9
          unfold jX6_laysChances_148 at h
          refine x_iinc C (k := 2) [(2, .int (a34.1 + (1 : Int32))), (0, .ref (B + oMd)), (1, .int p1)] dX6_laysChances_148 rfl rfl (by decide) rfl ?_
          refine x_goto C (tgt := 34) dX6_laysChances_151 (by decide) ?_
          cases h
          refine x_sub [1, 2, 0] rfl ?_
          exact hA8 (a34.1 + (1 : Int32), μ4) rfl
        refine x_icmp_ne C (tgt := 148) dX6_laysChances_52 (by decide) (fun hc14 => ?_) (fun hc14 => ?_)
        · rw [if_pos hc14] at h
          exact hJ13 a34.2 _ h hA8 hB9
        · rw [if_neg hc14] at h
          refine x_aload_n C dX6_laysChances_55 rfl 0 rfl ?_
          refine x_iload_n C dX6_laysChances_56 rfl 2 rfl ?_
          refine x_iload_n C dX6_laysChances_57 rfl 1 rfl ?_
          obtain ⟨q5, hk15, h⟩ := Option.bind_eq_some_iff.mp h
          refine x_callV C (As := [.int a34.1, .int p1]) (rest := []) (lw_g_mk tw_1363 rfl) (lw_g_mk tsel_47 rfl) (c_Md) (C1 := "HostelBedsModel") (T := TX6) (N := 27) (ci := 6) rfl (okX6_staysIn l cy D B ek a34.1 p1 σ a34.2 ω _ hk15) rfl rfl (by rw [hR9]; decide) (lw_g_mk tw_1364 rfl) (lw_g_mk tw_7 rfl) (by decide) rfl (lw_g_mk tw_1361 rfl) rfl (Nat.le_of_ble_eq_true rfl) dX6_laysChances_58 (by rw [hR9]; decide) ?_
          refine x_if_ne C (tgt := 67) dX6_laysChances_61 (by decide) (fun hc16 => ?_) (fun hc16 => ?_)
          · rw [if_pos hc16] at h
            refine x_aload_n C dX6_laysChances_67 rfl 0 rfl ?_
            refine x_iload_n C dX6_laysChances_68 rfl 2 rfl ?_
            refine x_iconst C (v := 5) dX6_laysChances_69 (by decide) ?_
            obtain ⟨q6, hk17, h⟩ := Option.bind_eq_some_iff.mp h
            refine x_callV C (As := [.int a34.1, .int (5 : Int32)]) (rest := []) (lw_g_mk tw_1367 rfl) (lw_g_mk tsel_48 rfl) (c_Md) (C1 := "HostelBedsModel") (T := TX6) (N := 27) (ci := 6) rfl (okX6_of l cy D B ek a34.1 (5 : Int32) σ a34.2 ω _ hk17) rfl rfl (by rw [hR9]; decide) (lw_g_mk tw_1368 rfl) (lw_g_mk tw_7 rfl) (by decide) rfl (lw_g_mk tw_1365 rfl) rfl (Nat.le_of_ble_eq_true rfl) dX6_laysChances_70 (by rw [hR9]; decide) ?_
            refine x_i2d C dX6_laysChances_73 ?_
            refine x_ldc2d C (v := 4636737291354636288) (lw_g_mk tw_1618 rfl) dX6_laysChances_74 ?_
            obtain ⟨hg18, h⟩ := gd_some h
            refine x_ddiv C dX6_laysChances_77 hg18 ?_
            refine x_dstore_n C [(3, .double (FP.ddiv (FP.i2d q6) (4636737291354636288 : UInt64))), (0, .ref (B + oMd)), (1, .int p1), (2, .int a34.1)] dX6_laysChances_78 rfl (by decide) rfl ?_
            refine x_aload_n C dX6_laysChances_79 rfl 1 rfl ?_
            refine x_iload_n C dX6_laysChances_80 rfl 3 rfl ?_
            obtain ⟨q7, hk19, h⟩ := Option.bind_eq_some_iff.mp h
            refine x_callV C (As := [.int a34.1]) (rest := []) (lw_g_mk tw_1375 rfl) (lw_g_mk tsel_50 rfl) (c_Md) (C1 := "HostelBedsModel") (T := TX6) (N := 27) (ci := 6) rfl (okX6_persons l cy D B ek a34.1 σ a34.2 ω _ hk19) rfl rfl (by rw [hR9]; decide) (lw_g_mk tw_1376 rfl) (lw_g_mk tw_7 rfl) (by decide) rfl (lw_g_mk tw_1373 rfl) rfl (Nat.le_of_ble_eq_true rfl) dX6_laysChances_81 (by rw [hR9]; decide) ?_
            refine x_istore C [(5, .int q7), (3, .double (FP.ddiv (FP.i2d q6) (4636737291354636288 : UInt64))), (0, .ref (B + oMd)), (1, .int p1), (2, .int a34.1)] dX6_laysChances_84 (by decide) rfl ?_
            refine x_aload_n C dX6_laysChances_86 rfl 2 rfl ?_
            refine x_get C (C1 := "HostelBedsModel") (T := TX6) (N := 27) (ci := 6) inXg6 _ (c_Md) rfl 26 (by decide) (lw_g_mk tw_1157 rfl) rfl dX6_laysChances_87 ?_
            refine x_alen C _ 4 (c_Ch) rfl (v := 205) rfl dX6_laysChances_90 ?_
            refine x_iconst C (v := 1) dX6_laysChances_91 (by decide) ?_
            refine x_isub C dX6_laysChances_92 ?_
            refine x_istore C [(6, .int ((205 : Int32) - (1 : Int32))), (5, .int q7), (3, .double (FP.ddiv (FP.i2d q6) (4636737291354636288 : UInt64))), (0, .ref (B + oMd)), (1, .int p1), (2, .int a34.1)] dX6_laysChances_93 (by decide) rfl ?_
            obtain ⟨b95, hk31, h⟩ := Option.bind_eq_some_iff.mp h
            refine x_sub [3, 4, 5, 2, 1, 0] rfl ?_
            refine loop_run (step := stX6_laysChances_95 q6 q7) (P := fun (a95 : Int32 × Mem) => X p l e R s m args below meth c 7 cy D B 0 0 Q 95 [(0, .ref (B + oMd)), (1, .int p1), (2, .int a34.1), (3, .double (FP.ddiv (FP.i2d q6) (4636737291354636288 : UInt64))), (5, .int q7), (6, .int a95.1)] [] σ a95.2 ω) (K := fun (b95 : Mem) => X p l e R s m args below meth c 7 cy D B 0 0 Q 148 [(0, .ref (B + oMd)), (1, .int p1), (2, .int a34.1)] [] σ b95 ω) ?_ 5000 ((205 : Int32) - (1 : Int32), a34.2) b95 hk31 ?_
            · intro a95 r h hA20 hB21
              unfold stX6_laysChances_95 at h
              refine x_iload C dX6_laysChances_95 5 rfl ?_
              refine x_if_lt C (tgt := 148) dX6_laysChances_97 (by decide) (fun hc22 => ?_) (fun hc22 => ?_)
              · rw [if_pos hc22] at h
                cases h
                refine x_sub [0, 1, 2] rfl ?_
                exact hB21 a95.2 rfl
              · rw [if_neg hc22] at h
                refine x_aload_n C dX6_laysChances_100 rfl 0 rfl ?_
                refine x_get C (C1 := "HostelBedsModel") (T := TX6) (N := 27) (ci := 6) inXg6 _ (c_Md) rfl 26 (by decide) (lw_g_mk tw_1157 rfl) rfl dX6_laysChances_101 ?_
                refine x_iload C dX6_laysChances_104 5 rfl ?_
                refine x_aload_n C dX6_laysChances_106 rfl 0 rfl ?_
                refine x_get C (C1 := "HostelBedsModel") (T := TX6) (N := 27) (ci := 6) inXg6 _ (c_Md) rfl 26 (by decide) (lw_g_mk tw_1157 rfl) rfl dX6_laysChances_107 ?_
                refine x_iload C dX6_laysChances_110 5 rfl ?_
                obtain ⟨hg23, h⟩ := gd_some h
                refine x_dald C _ (c_Ch) hg23 dX6_laysChances_112 ?_
                refine x_dconst1 C dX6_laysChances_113 ?_
                refine x_dload_n C dX6_laysChances_114 rfl 3 rfl ?_
                obtain ⟨hg24, h⟩ := gd_some h
                refine x_dsub C dX6_laysChances_115 hg24 ?_
                obtain ⟨hg25, h⟩ := gd_some h
                refine x_dmul C dX6_laysChances_116 hg25 ?_
                refine x_iload C dX6_laysChances_117 5 rfl ?_
                refine x_iload C dX6_laysChances_119 4 rfl ?_
                have hJ28 : ∀ (t8 : UInt64) (r9 : (Int32 × Mem) ⊕ (Mem)), jX6_laysChances_138 q6 a95 t8 = some r9 → (∀ a2, r9 = .inl a2 → (fun (a95 : Int32 × Mem) => X p l e R s m args below meth c 7 cy D B 0 0 Q 95 [(0, .ref (B + oMd)), (1, .int p1), (2, .int a34.1), (3, .double (FP.ddiv (FP.i2d q6) (4636737291354636288 : UInt64))), (5, .int q7), (6, .int a95.1)] [] σ a95.2 ω) a2) → (∀ b2, r9 = .inr b2 → (fun (b95 : Mem) => X p l e R s m args below meth c 7 cy D B 0 0 Q 148 [(0, .ref (B + oMd)), (1, .int p1), (2, .int a34.1)] [] σ b95 ω) b2) → X p l e R s m args below meth c 7 cy D B 0 0 Q 138 [(0, .ref (B + oMd)), (1, .int p1), (2, .int a34.1), (3, .double (FP.ddiv (FP.i2d q6) (4636737291354636288 : UInt64))), (5, .int q7), (6, .int a95.1)] [.double t8, .double (FP.dmul (rD a95.2 1 0 a95.1.toNatClampNeg) (FP.dsub FP.dconst1 (FP.ddiv (FP.i2d q6) (4636737291354636288 : UInt64)))), .int a95.1, .ref (B + oCh)] σ a95.2 ω := by
                  intro t8 r h hA20 hB21
                  unfold jX6_laysChances_138 at h
                  refine x_dload_n C dX6_laysChances_138 rfl 3 rfl ?_
                  obtain ⟨hg26, h⟩ := gd_some h
                  refine x_dmul C dX6_laysChances_139 hg26 ?_
                  obtain ⟨hg27, h⟩ := gd_some h
                  refine x_dadd C dX6_laysChances_140 hg27 ?_
                  refine x_dast C _ (c_Ch) hg23 dX6_laysChances_141 (s_Ch) ?_
                  refine x_iinc C (k := 5) [(6, .int (a95.1 + (-1 : Int32))), (0, .ref (B + oMd)), (1, .int p1), (2, .int a34.1), (3, .double (FP.ddiv (FP.i2d q6) (4636737291354636288 : UInt64))), (5, .int q7)] dX6_laysChances_142 rfl rfl (by decide) rfl ?_
                  refine x_goto C (tgt := 95) dX6_laysChances_145 (by decide) ?_
                  cases h
                  refine x_sub [1, 2, 3, 4, 5, 0] rfl ?_
                  exact hA20 (a95.1 + (-1 : Int32), wD a95.2 1 0 a95.1.toNatClampNeg (FP.dadd (FP.dmul (rD a95.2 1 0 a95.1.toNatClampNeg) (FP.dsub FP.dconst1 (FP.ddiv (FP.i2d q6) (4636737291354636288 : UInt64)))) (FP.dmul t8 (FP.ddiv (FP.i2d q6) (4636737291354636288 : UInt64))))) rfl
                refine x_icmp_ge C (tgt := 128) dX6_laysChances_121 (by decide) (fun hc29 => ?_) (fun hc29 => ?_)
                · rw [if_pos hc29] at h
                  refine x_aload_n C dX6_laysChances_128 rfl 0 rfl ?_
                  refine x_get C (C1 := "HostelBedsModel") (T := TX6) (N := 27) (ci := 6) inXg6 _ (c_Md) rfl 26 (by decide) (lw_g_mk tw_1157 rfl) rfl dX6_laysChances_129 ?_
                  refine x_iload C dX6_laysChances_132 5 rfl ?_
                  refine x_iload C dX6_laysChances_134 4 rfl ?_
                  refine x_isub C dX6_laysChances_136 ?_
                  obtain ⟨hg30, h⟩ := gd_some h
                  refine x_dald C _ (c_Ch) hg30 dX6_laysChances_137 ?_
                  exact hJ28 (rD a95.2 1 0 (a95.1 - q7).toNatClampNeg) _ h hA20 hB21
                · rw [if_neg hc29] at h
                  refine x_dconst0 C dX6_laysChances_124 ?_
                  refine x_goto C (tgt := 138) dX6_laysChances_125 (by decide) ?_
                  exact hJ28 FP.dconst0 _ h hA20 hB21
            · show X p l e R s m args below meth c 7 cy D B 0 0 Q 148 [(0, .ref (B + oMd)), (1, .int p1), (2, .int a34.1)] [] σ b95 ω
              exact hJ13 b95 _ h hA8 hB9
          · rw [if_neg hc16] at h
            refine x_goto C (tgt := 148) dX6_laysChances_64 (by decide) ?_
            exact hJ13 a34.2 _ h hA8 hB9
    · show X p l e R s m args below meth c 7 cy D B 0 0 Q 154 [] [] σ b34 ω
      cases h
      exact hret _ _ dX6_laysChances_154
def fX6_chance (p1 : Int32) (p2 : Int32) (μ : Mem) : Option (UInt64 × Mem) := ((fX6_isNight p1).bind fun q1 => (if ¬ q1 = 0 then ((fX6_laysChances p1 (wI μ 60 0 0 (0 : Int32))).bind fun q2 => ((fX6_isIn p2 (0 : Int32) ((205 : Int32) - (1 : Int32))).bind fun q3 => (if q3 = 0 then (some (FP.dconst0, q2)) else (gd (inb p2 205) (some (rD q2 1 0 p2.toNatClampNeg, q2)))))) else ((fX6_fails (1 : Int32) (wI μ 60 0 0 (0 : Int32))).bind fun q4 => (some (FP.i2d q4.1, q4.2)))))
set_option maxHeartbeats 4000000 in
set_option maxRecDepth 100000 in
theorem okX6_chance (l : Launch) (cy : Nat → ClassId) (D : va_G) (B : Nat) (ek : EK) (p1 : Int32) (p2 : Int32) (σ μ ω : Mem) (res : UInt64 × Mem) (h : fX6_chance p1 p2 μ = some res) : CT l cy D B ek yX6_chance cX6_chance 3 (some .double) ({ frames := 4, cells := 0, slots := 0, locals := 91 } : Room) [.ref (B + oMd), .int p1, .int p2] σ μ ω (some (.double res.1)) σ res.2 ω := by
  refine met_X (own := "HostelBedsModel") (by decide) rfl (Nat.le_of_ble_eq_true rfl) ?_
  intro p e s m args below meth c C hrT hlk
  have hret : ∀ (pc9 : Nat) (lcs9 : List (Nat × Value)), decode cX6_chance pc9 = .ok (.dreturn, 1) → X p l e ({ frames := 4, cells := 0, slots := 0, locals := 91 } : Room) s m args below meth c 3 cy D B 0 0 (MQ below (QR cy D B (some (.double res.1)) σ res.2 ω) args s 0 0 (aB B)) pc9 lcs9 [.double res.1] σ res.2 ω := fun _ _ hd => x_dret C hrT hlk hd
  generalize (MQ below (QR cy D B (some (.double res.1)) σ res.2 ω) args s 0 0 (aB B)) = Q at hret ⊢
  obtain ⟨R, hR9⟩ : ∃ R : Room, R = ({ frames := 4, cells := 0, slots := 0, locals := 91 } : Room) := ⟨_, rfl⟩
  rw [← hR9] at hret ⊢
  unfold fX6_chance at h
  show X p l e R s m args below meth c 3 cy D B 0 0 Q 0 [(0, .ref (B + oMd)), (1, .int p1), (2, .int p2)] [] σ μ ω
  refine x_aload_n C dX6_chance_0 rfl 0 rfl ?_
  refine x_iconst C (v := 0) dX6_chance_1 (by decide) ?_
  refine x_put C (C1 := "HostelBedsModel") (T := TX6) (N := 27) (ci := 6) inXg6 tyX6 tyX6_ok nmX6 _ (c_Md) rfl 0 (by decide) (lw_g_mk tw_1131 rfl) rfl rfl rfl rfl (Nat.le_of_ble_eq_true rfl) dX6_chance_2 (s_Md_thrown) ?_
  refine x_iload_n C dX6_chance_5 rfl 1 rfl ?_
  obtain ⟨q1, hk1, h⟩ := Option.bind_eq_some_iff.mp h
  refine x_callS C (As := [.int p1]) (rest := []) (lw_g_mk tw_1536 rfl) (okX6_isNight l cy D B ek p1 σ (wI μ 60 0 0 (0 : Int32)) ω _ hk1) rfl rfl (by rw [hR9]; decide) (lw_g_mk tw_1537 rfl) (lw_g_mk tw_7 rfl) (by decide) rfl (lw_g_mk tw_1535 rfl) rfl (Nat.le_of_ble_eq_true rfl) dX6_chance_6 (by rw [hR9]; decide) ?_
  refine x_if_ne C (tgt := 19) dX6_chance_9 (by decide) (fun hc2 => ?_) (fun hc2 => ?_)
  · rw [if_pos hc2] at h
    refine x_aload_n C dX6_chance_19 rfl 0 rfl ?_
    refine x_iload_n C dX6_chance_20 rfl 1 rfl ?_
    obtain ⟨q2, hk3, h⟩ := Option.bind_eq_some_iff.mp h
    refine x_callV C (As := [.int p1]) (rest := []) (lw_g_mk tw_1616 rfl) (lw_g_mk tsel_83 rfl) (c_Md) (C1 := "HostelBedsModel") (T := TX6) (N := 27) (ci := 6) rfl (okX6_laysChances l cy D B ek p1 σ (wI μ 60 0 0 (0 : Int32)) ω _ hk3) rfl rfl (by rw [hR9]; decide) (lw_g_mk tw_1617 rfl) (lw_g_mk tw_7 rfl) (by decide) rfl (lw_g_mk tw_1614 rfl) rfl (Nat.le_of_ble_eq_true rfl) dX6_chance_21 (by rw [hR9]; decide) ?_
    refine x_iload_n C dX6_chance_24 rfl 2 rfl ?_
    refine x_iconst C (v := 0) dX6_chance_25 (by decide) ?_
    refine x_aload_n C dX6_chance_26 rfl 0 rfl ?_
    refine x_get C (C1 := "HostelBedsModel") (T := TX6) (N := 27) (ci := 6) inXg6 _ (c_Md) rfl 26 (by decide) (lw_g_mk tw_1157 rfl) rfl dX6_chance_27 ?_
    refine x_alen C _ 4 (c_Ch) rfl (v := 205) rfl dX6_chance_30 ?_
    refine x_iconst C (v := 1) dX6_chance_31 (by decide) ?_
    refine x_isub C dX6_chance_32 ?_
    obtain ⟨q3, hk4, h⟩ := Option.bind_eq_some_iff.mp h
    refine x_callS C (As := [.int p2, .int (0 : Int32), .int ((205 : Int32) - (1 : Int32))]) (rest := []) (lw_g_mk tw_1235 rfl) (okX6_isIn l cy D B ek p2 (0 : Int32) ((205 : Int32) - (1 : Int32)) σ q2 ω _ hk4) rfl rfl (by rw [hR9]; decide) (lw_g_mk tw_1236 rfl) (lw_g_mk tw_7 rfl) (by decide) rfl (lw_g_mk tw_1234 rfl) rfl (Nat.le_of_ble_eq_true rfl) dX6_chance_33 (by rw [hR9]; decide) ?_
    refine x_if_eq C (tgt := 48) dX6_chance_36 (by decide) (fun hc5 => ?_) (fun hc5 => ?_)
    · rw [if_pos hc5] at h
      refine x_dconst0 C dX6_chance_48 ?_
      cases h
      exact hret _ _ dX6_chance_49
    · rw [if_neg hc5] at h
      refine x_aload_n C dX6_chance_39 rfl 0 rfl ?_
      refine x_get C (C1 := "HostelBedsModel") (T := TX6) (N := 27) (ci := 6) inXg6 _ (c_Md) rfl 26 (by decide) (lw_g_mk tw_1157 rfl) rfl dX6_chance_40 ?_
      refine x_iload_n C dX6_chance_43 rfl 2 rfl ?_
      obtain ⟨hg6, h⟩ := gd_some h
      refine x_dald C _ (c_Ch) hg6 dX6_chance_44 ?_
      refine x_goto C (tgt := 49) dX6_chance_45 (by decide) ?_
      cases h
      exact hret _ _ dX6_chance_49
  · rw [if_neg hc2] at h
    refine x_aload_n C dX6_chance_12 rfl 0 rfl ?_
    refine x_iconst C (v := 1) dX6_chance_13 (by decide) ?_
    obtain ⟨q4, hk7, h⟩ := Option.bind_eq_some_iff.mp h
    refine x_callV C (As := [.int (1 : Int32)]) (rest := []) (lw_g_mk tw_1224 rfl) (lw_g_mk tsel_18 rfl) (c_Md) (C1 := "HostelBedsModel") (T := TX6) (N := 27) (ci := 6) rfl (okX6_fails l cy D B ek (1 : Int32) σ (wI μ 60 0 0 (0 : Int32)) ω _ hk7) rfl rfl (by rw [hR9]; decide) (lw_g_mk tw_1225 rfl) (lw_g_mk tw_7 rfl) (by decide) rfl (lw_g_mk tw_1222 rfl) rfl (Nat.le_of_ble_eq_true rfl) dX6_chance_14 (by rw [hR9]; decide) ?_
    refine x_i2d C dX6_chance_17 ?_
    cases h
    exact hret _ _ dX6_chance_18
def stX6_risk_34 (q2 : Mem) (a34 : UInt64 × Int32) : Option ((UInt64 × Int32) ⊕ (UInt64)) := (if (205 : Int32) ≤ a34.2 then (some (.inr a34.1)) else (gd (inb a34.2 205) (gd (n64 (FP.dadd a34.1 (rD q2 1 0 a34.2.toNatClampNeg))) (some (.inl (FP.dadd a34.1 (rD q2 1 0 a34.2.toNatClampNeg), a34.2 + (1 : Int32)))))))
def fX6_risk (p1 : Int32) (μ : Mem) : Option (UInt64 × Mem) := ((fX6_isNight p1).bind fun q1 => (if ¬ q1 = 0 then ((fX6_laysChances p1 (wI μ 60 0 0 (0 : Int32))).bind fun q2 => ((fX6_allBeds q2).bind fun q3 => ((loop (stX6_risk_34 q2) 5000 (FP.dconst0, q3 + (1 : Int32))).bind fun b34 => (some (b34, q2))))) else ((fX6_fails (1 : Int32) (wI μ 60 0 0 (0 : Int32))).bind fun q4 => (some (FP.i2d q4.1, q4.2)))))
set_option maxHeartbeats 4000000 in
set_option maxRecDepth 100000 in
theorem okX6_risk (l : Launch) (cy : Nat → ClassId) (D : va_G) (B : Nat) (ek : EK) (p1 : Int32) (σ μ ω : Mem) (res : UInt64 × Mem) (h : fX6_risk p1 μ = some res) : CT l cy D B ek yX6_risk cX6_risk 5 (some .double) ({ frames := 4, cells := 0, slots := 0, locals := 91 } : Room) [.ref (B + oMd), .int p1] σ μ ω (some (.double res.1)) σ res.2 ω := by
  refine met_X (own := "HostelBedsModel") (by decide) rfl (Nat.le_of_ble_eq_true rfl) ?_
  intro p e s m args below meth c C hrT hlk
  have hret : ∀ (pc9 : Nat) (lcs9 : List (Nat × Value)), decode cX6_risk pc9 = .ok (.dreturn, 1) → X p l e ({ frames := 4, cells := 0, slots := 0, locals := 91 } : Room) s m args below meth c 5 cy D B 0 0 (MQ below (QR cy D B (some (.double res.1)) σ res.2 ω) args s 0 0 (aB B)) pc9 lcs9 [.double res.1] σ res.2 ω := fun _ _ hd => x_dret C hrT hlk hd
  generalize (MQ below (QR cy D B (some (.double res.1)) σ res.2 ω) args s 0 0 (aB B)) = Q at hret ⊢
  obtain ⟨R, hR9⟩ : ∃ R : Room, R = ({ frames := 4, cells := 0, slots := 0, locals := 91 } : Room) := ⟨_, rfl⟩
  rw [← hR9] at hret ⊢
  unfold fX6_risk at h
  show X p l e R s m args below meth c 5 cy D B 0 0 Q 0 [(0, .ref (B + oMd)), (1, .int p1)] [] σ μ ω
  refine x_aload_n C dX6_risk_0 rfl 0 rfl ?_
  refine x_iconst C (v := 0) dX6_risk_1 (by decide) ?_
  refine x_put C (C1 := "HostelBedsModel") (T := TX6) (N := 27) (ci := 6) inXg6 tyX6 tyX6_ok nmX6 _ (c_Md) rfl 0 (by decide) (lw_g_mk tw_1131 rfl) rfl rfl rfl rfl (Nat.le_of_ble_eq_true rfl) dX6_risk_2 (s_Md_thrown) ?_
  refine x_iload_n C dX6_risk_5 rfl 1 rfl ?_
  obtain ⟨q1, hk1, h⟩ := Option.bind_eq_some_iff.mp h
  refine x_callS C (As := [.int p1]) (rest := []) (lw_g_mk tw_1536 rfl) (okX6_isNight l cy D B ek p1 σ (wI μ 60 0 0 (0 : Int32)) ω _ hk1) rfl rfl (by rw [hR9]; decide) (lw_g_mk tw_1537 rfl) (lw_g_mk tw_7 rfl) (by decide) rfl (lw_g_mk tw_1535 rfl) rfl (Nat.le_of_ble_eq_true rfl) dX6_risk_6 (by rw [hR9]; decide) ?_
  refine x_if_ne C (tgt := 19) dX6_risk_9 (by decide) (fun hc2 => ?_) (fun hc2 => ?_)
  · rw [if_pos hc2] at h
    refine x_aload_n C dX6_risk_19 rfl 0 rfl ?_
    refine x_iload_n C dX6_risk_20 rfl 1 rfl ?_
    obtain ⟨q2, hk3, h⟩ := Option.bind_eq_some_iff.mp h
    refine x_callV C (As := [.int p1]) (rest := []) (lw_g_mk tw_1616 rfl) (lw_g_mk tsel_83 rfl) (c_Md) (C1 := "HostelBedsModel") (T := TX6) (N := 27) (ci := 6) rfl (okX6_laysChances l cy D B ek p1 σ (wI μ 60 0 0 (0 : Int32)) ω _ hk3) rfl rfl (by rw [hR9]; decide) (lw_g_mk tw_1617 rfl) (lw_g_mk tw_7 rfl) (by decide) rfl (lw_g_mk tw_1614 rfl) rfl (Nat.le_of_ble_eq_true rfl) dX6_risk_21 (by rw [hR9]; decide) ?_
    refine x_dconst0 C dX6_risk_24 ?_
    refine x_dstore_n C [(2, .double FP.dconst0), (0, .ref (B + oMd)), (1, .int p1)] dX6_risk_25 rfl (by decide) rfl ?_
    refine x_aload_n C dX6_risk_26 rfl 1 rfl ?_
    obtain ⟨q3, hk4, h⟩ := Option.bind_eq_some_iff.mp h
    refine x_callV C (As := []) (rest := []) (lw_g_mk tw_1355 rfl) (lw_g_mk tsel_45 rfl) (c_Md) (C1 := "HostelBedsModel") (T := TX6) (N := 27) (ci := 6) rfl (okX6_allBeds l cy D B ek σ q2 ω _ hk4) rfl rfl (by rw [hR9]; decide) (lw_g_mk tw_1356 rfl) (lw_g_mk tw_7 rfl) (by decide) rfl (lw_g_mk tw_1353 rfl) rfl (Nat.le_of_ble_eq_true rfl) dX6_risk_27 (by rw [hR9]; decide) ?_
    refine x_iconst C (v := 1) dX6_risk_30 (by decide) ?_
    refine x_iadd C dX6_risk_31 ?_
    refine x_istore C [(4, .int (q3 + (1 : Int32))), (2, .double FP.dconst0), (0, .ref (B + oMd)), (1, .int p1)] dX6_risk_32 (by decide) rfl ?_
    obtain ⟨b34, hk10, h⟩ := Option.bind_eq_some_iff.mp h
    refine x_sub [2, 1, 0] rfl ?_
    refine loop_run (step := stX6_risk_34 q2) (P := fun (a34 : UInt64 × Int32) => X p l e R s m args below meth c 5 cy D B 0 0 Q 34 [(0, .ref (B + oMd)), (2, .double a34.1), (4, .int a34.2)] [] σ q2 ω) (K := fun (b34 : UInt64) => X p l e R s m args below meth c 5 cy D B 0 0 Q 60 [(2, .double b34)] [] σ q2 ω) ?_ 5000 (FP.dconst0, q3 + (1 : Int32)) b34 hk10 ?_
    · intro a34 r h hA5 hB6
      unfold stX6_risk_34 at h
      refine x_iload C dX6_risk_34 2 rfl ?_
      refine x_aload_n C dX6_risk_36 rfl 0 rfl ?_
      refine x_get C (C1 := "HostelBedsModel") (T := TX6) (N := 27) (ci := 6) inXg6 _ (c_Md) rfl 26 (by decide) (lw_g_mk tw_1157 rfl) rfl dX6_risk_37 ?_
      refine x_alen C _ 4 (c_Ch) rfl (v := 205) rfl dX6_risk_40 ?_
      refine x_icmp_ge C (tgt := 60) dX6_risk_41 (by decide) (fun hc7 => ?_) (fun hc7 => ?_)
      · rw [if_pos hc7] at h
        cases h
        refine x_sub [1] rfl ?_
        exact hB6 a34.1 rfl
      · rw [if_neg hc7] at h
        refine x_dload_n C dX6_risk_44 rfl 1 rfl ?_
        refine x_aload_n C dX6_risk_45 rfl 0 rfl ?_
        refine x_get C (C1 := "HostelBedsModel") (T := TX6) (N := 27) (ci := 6) inXg6 _ (c_Md) rfl 26 (by decide) (lw_g_mk tw_1157 rfl) rfl dX6_risk_46 ?_
        refine x_iload C dX6_risk_49 2 rfl ?_
        obtain ⟨hg8, h⟩ := gd_some h
        refine x_dald C _ (c_Ch) hg8 dX6_risk_51 ?_
        obtain ⟨hg9, h⟩ := gd_some h
        refine x_dadd C dX6_risk_52 hg9 ?_
        refine x_dstore_n C [(2, .double (FP.dadd a34.1 (rD q2 1 0 a34.2.toNatClampNeg))), (0, .ref (B + oMd)), (4, .int a34.2)] dX6_risk_53 rfl (by decide) rfl ?_
        refine x_iinc C (k := 2) [(4, .int (a34.2 + (1 : Int32))), (2, .double (FP.dadd a34.1 (rD q2 1 0 a34.2.toNatClampNeg))), (0, .ref (B + oMd))] dX6_risk_54 rfl rfl (by decide) rfl ?_
        refine x_goto C (tgt := 34) dX6_risk_57 (by decide) ?_
        cases h
        refine x_sub [2, 1, 0] rfl ?_
        exact hA5 (FP.dadd a34.1 (rD q2 1 0 a34.2.toNatClampNeg), a34.2 + (1 : Int32)) rfl
    · show X p l e R s m args below meth c 5 cy D B 0 0 Q 60 [(2, .double b34)] [] σ q2 ω
      refine x_dload_n C dX6_risk_60 rfl 0 rfl ?_
      cases h
      exact hret _ _ dX6_risk_61
  · rw [if_neg hc2] at h
    refine x_aload_n C dX6_risk_12 rfl 0 rfl ?_
    refine x_iconst C (v := 1) dX6_risk_13 (by decide) ?_
    obtain ⟨q4, hk11, h⟩ := Option.bind_eq_some_iff.mp h
    refine x_callV C (As := [.int (1 : Int32)]) (rest := []) (lw_g_mk tw_1224 rfl) (lw_g_mk tsel_18 rfl) (c_Md) (C1 := "HostelBedsModel") (T := TX6) (N := 27) (ci := 6) rfl (okX6_fails l cy D B ek (1 : Int32) σ (wI μ 60 0 0 (0 : Int32)) ω _ hk11) rfl rfl (by rw [hR9]; decide) (lw_g_mk tw_1225 rfl) (lw_g_mk tw_7 rfl) (by decide) rfl (lw_g_mk tw_1222 rfl) rfl (Nat.le_of_ble_eq_true rfl) dX6_risk_14 (by rw [hR9]; decide) ?_
    refine x_i2d C dX6_risk_17 ?_
    cases h
    exact hret _ _ dX6_risk_18
def stX6_expectedWalks_34 (q2 : Mem) (a34 : UInt64 × Int32) : Option ((UInt64 × Int32) ⊕ (UInt64)) := (if (205 : Int32) ≤ a34.2 then (some (.inr a34.1)) else ((fX6_allBeds q2).bind fun q4 => (gd (inb a34.2 205) (gd (n64 (FP.dmul (FP.i2d (a34.2 - q4)) (rD q2 1 0 a34.2.toNatClampNeg))) (gd (n64 (FP.dadd a34.1 (FP.dmul (FP.i2d (a34.2 - q4)) (rD q2 1 0 a34.2.toNatClampNeg)))) (some (.inl (FP.dadd a34.1 (FP.dmul (FP.i2d (a34.2 - q4)) (rD q2 1 0 a34.2.toNatClampNeg)), a34.2 + (1 : Int32)))))))))
def fX6_expectedWalks (p1 : Int32) (μ : Mem) : Option (UInt64 × Mem) := ((fX6_isNight p1).bind fun q1 => (if ¬ q1 = 0 then ((fX6_laysChances p1 (wI μ 60 0 0 (0 : Int32))).bind fun q2 => ((fX6_allBeds q2).bind fun q3 => ((loop (stX6_expectedWalks_34 q2) 5000 (FP.dconst0, q3 + (1 : Int32))).bind fun b34 => (some (b34, q2))))) else ((fX6_fails (1 : Int32) (wI μ 60 0 0 (0 : Int32))).bind fun q5 => (some (FP.i2d q5.1, q5.2)))))
set_option maxHeartbeats 4000000 in
set_option maxRecDepth 100000 in
theorem okX6_expectedWalks (l : Launch) (cy : Nat → ClassId) (D : va_G) (B : Nat) (ek : EK) (p1 : Int32) (σ μ ω : Mem) (res : UInt64 × Mem) (h : fX6_expectedWalks p1 μ = some res) : CT l cy D B ek yX6_expectedWalks cX6_expectedWalks 5 (some .double) ({ frames := 4, cells := 0, slots := 0, locals := 91 } : Room) [.ref (B + oMd), .int p1] σ μ ω (some (.double res.1)) σ res.2 ω := by
  refine met_X (own := "HostelBedsModel") (by decide) rfl (Nat.le_of_ble_eq_true rfl) ?_
  intro p e s m args below meth c C hrT hlk
  have hret : ∀ (pc9 : Nat) (lcs9 : List (Nat × Value)), decode cX6_expectedWalks pc9 = .ok (.dreturn, 1) → X p l e ({ frames := 4, cells := 0, slots := 0, locals := 91 } : Room) s m args below meth c 5 cy D B 0 0 (MQ below (QR cy D B (some (.double res.1)) σ res.2 ω) args s 0 0 (aB B)) pc9 lcs9 [.double res.1] σ res.2 ω := fun _ _ hd => x_dret C hrT hlk hd
  generalize (MQ below (QR cy D B (some (.double res.1)) σ res.2 ω) args s 0 0 (aB B)) = Q at hret ⊢
  obtain ⟨R, hR9⟩ : ∃ R : Room, R = ({ frames := 4, cells := 0, slots := 0, locals := 91 } : Room) := ⟨_, rfl⟩
  rw [← hR9] at hret ⊢
  unfold fX6_expectedWalks at h
  show X p l e R s m args below meth c 5 cy D B 0 0 Q 0 [(0, .ref (B + oMd)), (1, .int p1)] [] σ μ ω
  refine x_aload_n C dX6_expectedWalks_0 rfl 0 rfl ?_
  refine x_iconst C (v := 0) dX6_expectedWalks_1 (by decide) ?_
  refine x_put C (C1 := "HostelBedsModel") (T := TX6) (N := 27) (ci := 6) inXg6 tyX6 tyX6_ok nmX6 _ (c_Md) rfl 0 (by decide) (lw_g_mk tw_1131 rfl) rfl rfl rfl rfl (Nat.le_of_ble_eq_true rfl) dX6_expectedWalks_2 (s_Md_thrown) ?_
  refine x_iload_n C dX6_expectedWalks_5 rfl 1 rfl ?_
  obtain ⟨q1, hk1, h⟩ := Option.bind_eq_some_iff.mp h
  refine x_callS C (As := [.int p1]) (rest := []) (lw_g_mk tw_1536 rfl) (okX6_isNight l cy D B ek p1 σ (wI μ 60 0 0 (0 : Int32)) ω _ hk1) rfl rfl (by rw [hR9]; decide) (lw_g_mk tw_1537 rfl) (lw_g_mk tw_7 rfl) (by decide) rfl (lw_g_mk tw_1535 rfl) rfl (Nat.le_of_ble_eq_true rfl) dX6_expectedWalks_6 (by rw [hR9]; decide) ?_
  refine x_if_ne C (tgt := 19) dX6_expectedWalks_9 (by decide) (fun hc2 => ?_) (fun hc2 => ?_)
  · rw [if_pos hc2] at h
    refine x_aload_n C dX6_expectedWalks_19 rfl 0 rfl ?_
    refine x_iload_n C dX6_expectedWalks_20 rfl 1 rfl ?_
    obtain ⟨q2, hk3, h⟩ := Option.bind_eq_some_iff.mp h
    refine x_callV C (As := [.int p1]) (rest := []) (lw_g_mk tw_1616 rfl) (lw_g_mk tsel_83 rfl) (c_Md) (C1 := "HostelBedsModel") (T := TX6) (N := 27) (ci := 6) rfl (okX6_laysChances l cy D B ek p1 σ (wI μ 60 0 0 (0 : Int32)) ω _ hk3) rfl rfl (by rw [hR9]; decide) (lw_g_mk tw_1617 rfl) (lw_g_mk tw_7 rfl) (by decide) rfl (lw_g_mk tw_1614 rfl) rfl (Nat.le_of_ble_eq_true rfl) dX6_expectedWalks_21 (by rw [hR9]; decide) ?_
    refine x_dconst0 C dX6_expectedWalks_24 ?_
    refine x_dstore_n C [(2, .double FP.dconst0), (0, .ref (B + oMd)), (1, .int p1)] dX6_expectedWalks_25 rfl (by decide) rfl ?_
    refine x_aload_n C dX6_expectedWalks_26 rfl 1 rfl ?_
    obtain ⟨q3, hk4, h⟩ := Option.bind_eq_some_iff.mp h
    refine x_callV C (As := []) (rest := []) (lw_g_mk tw_1355 rfl) (lw_g_mk tsel_45 rfl) (c_Md) (C1 := "HostelBedsModel") (T := TX6) (N := 27) (ci := 6) rfl (okX6_allBeds l cy D B ek σ q2 ω _ hk4) rfl rfl (by rw [hR9]; decide) (lw_g_mk tw_1356 rfl) (lw_g_mk tw_7 rfl) (by decide) rfl (lw_g_mk tw_1353 rfl) rfl (Nat.le_of_ble_eq_true rfl) dX6_expectedWalks_27 (by rw [hR9]; decide) ?_
    refine x_iconst C (v := 1) dX6_expectedWalks_30 (by decide) ?_
    refine x_iadd C dX6_expectedWalks_31 ?_
    refine x_istore C [(4, .int (q3 + (1 : Int32))), (2, .double FP.dconst0), (0, .ref (B + oMd)), (1, .int p1)] dX6_expectedWalks_32 (by decide) rfl ?_
    obtain ⟨b34, hk12, h⟩ := Option.bind_eq_some_iff.mp h
    refine x_sub [2, 1, 0] rfl ?_
    refine loop_run (step := stX6_expectedWalks_34 q2) (P := fun (a34 : UInt64 × Int32) => X p l e R s m args below meth c 5 cy D B 0 0 Q 34 [(0, .ref (B + oMd)), (2, .double a34.1), (4, .int a34.2)] [] σ q2 ω) (K := fun (b34 : UInt64) => X p l e R s m args below meth c 5 cy D B 0 0 Q 69 [(2, .double b34)] [] σ q2 ω) ?_ 5000 (FP.dconst0, q3 + (1 : Int32)) b34 hk12 ?_
    · intro a34 r h hA5 hB6
      unfold stX6_expectedWalks_34 at h
      refine x_iload C dX6_expectedWalks_34 2 rfl ?_
      refine x_aload_n C dX6_expectedWalks_36 rfl 0 rfl ?_
      refine x_get C (C1 := "HostelBedsModel") (T := TX6) (N := 27) (ci := 6) inXg6 _ (c_Md) rfl 26 (by decide) (lw_g_mk tw_1157 rfl) rfl dX6_expectedWalks_37 ?_
      refine x_alen C _ 4 (c_Ch) rfl (v := 205) rfl dX6_expectedWalks_40 ?_
      refine x_icmp_ge C (tgt := 69) dX6_expectedWalks_41 (by decide) (fun hc7 => ?_) (fun hc7 => ?_)
      · rw [if_pos hc7] at h
        cases h
        refine x_sub [1] rfl ?_
        exact hB6 a34.1 rfl
      · rw [if_neg hc7] at h
        refine x_dload_n C dX6_expectedWalks_44 rfl 1 rfl ?_
        refine x_iload C dX6_expectedWalks_45 2 rfl ?_
        refine x_aload_n C dX6_expectedWalks_47 rfl 0 rfl ?_
        obtain ⟨q4, hk8, h⟩ := Option.bind_eq_some_iff.mp h
        refine x_callV C (As := []) (rest := [.int a34.2, .double a34.1]) (lw_g_mk tw_1355 rfl) (lw_g_mk tsel_45 rfl) (c_Md) (C1 := "HostelBedsModel") (T := TX6) (N := 27) (ci := 6) rfl (okX6_allBeds l cy D B ek σ q2 ω _ hk8) rfl rfl (by rw [hR9]; decide) (lw_g_mk tw_1356 rfl) (lw_g_mk tw_7 rfl) (by decide) rfl (lw_g_mk tw_1353 rfl) rfl (Nat.le_of_ble_eq_true rfl) dX6_expectedWalks_48 (by rw [hR9]; decide) ?_
        refine x_isub C dX6_expectedWalks_51 ?_
        refine x_i2d C dX6_expectedWalks_52 ?_
        refine x_aload_n C dX6_expectedWalks_53 rfl 0 rfl ?_
        refine x_get C (C1 := "HostelBedsModel") (T := TX6) (N := 27) (ci := 6) inXg6 _ (c_Md) rfl 26 (by decide) (lw_g_mk tw_1157 rfl) rfl dX6_expectedWalks_54 ?_
        refine x_iload C dX6_expectedWalks_57 2 rfl ?_
        obtain ⟨hg9, h⟩ := gd_some h
        refine x_dald C _ (c_Ch) hg9 dX6_expectedWalks_59 ?_
        obtain ⟨hg10, h⟩ := gd_some h
        refine x_dmul C dX6_expectedWalks_60 hg10 ?_
        obtain ⟨hg11, h⟩ := gd_some h
        refine x_dadd C dX6_expectedWalks_61 hg11 ?_
        refine x_dstore_n C [(2, .double (FP.dadd a34.1 (FP.dmul (FP.i2d (a34.2 - q4)) (rD q2 1 0 a34.2.toNatClampNeg)))), (0, .ref (B + oMd)), (4, .int a34.2)] dX6_expectedWalks_62 rfl (by decide) rfl ?_
        refine x_iinc C (k := 2) [(4, .int (a34.2 + (1 : Int32))), (2, .double (FP.dadd a34.1 (FP.dmul (FP.i2d (a34.2 - q4)) (rD q2 1 0 a34.2.toNatClampNeg)))), (0, .ref (B + oMd))] dX6_expectedWalks_63 rfl rfl (by decide) rfl ?_
        refine x_goto C (tgt := 34) dX6_expectedWalks_66 (by decide) ?_
        cases h
        refine x_sub [2, 1, 0] rfl ?_
        exact hA5 (FP.dadd a34.1 (FP.dmul (FP.i2d (a34.2 - q4)) (rD q2 1 0 a34.2.toNatClampNeg)), a34.2 + (1 : Int32)) rfl
    · show X p l e R s m args below meth c 5 cy D B 0 0 Q 69 [(2, .double b34)] [] σ q2 ω
      refine x_dload_n C dX6_expectedWalks_69 rfl 0 rfl ?_
      cases h
      exact hret _ _ dX6_expectedWalks_70
  · rw [if_neg hc2] at h
    refine x_aload_n C dX6_expectedWalks_12 rfl 0 rfl ?_
    refine x_iconst C (v := 1) dX6_expectedWalks_13 (by decide) ?_
    obtain ⟨q5, hk13, h⟩ := Option.bind_eq_some_iff.mp h
    refine x_callV C (As := [.int (1 : Int32)]) (rest := []) (lw_g_mk tw_1224 rfl) (lw_g_mk tsel_18 rfl) (c_Md) (C1 := "HostelBedsModel") (T := TX6) (N := 27) (ci := 6) rfl (okX6_fails l cy D B ek (1 : Int32) σ (wI μ 60 0 0 (0 : Int32)) ω _ hk13) rfl rfl (by rw [hR9]; decide) (lw_g_mk tw_1225 rfl) (lw_g_mk tw_7 rfl) (by decide) rfl (lw_g_mk tw_1222 rfl) rfl (Nat.le_of_ble_eq_true rfl) dX6_expectedWalks_14 (by rw [hR9]; decide) ?_
    refine x_i2d C dX6_expectedWalks_17 ?_
    cases h
    exact hret _ _ dX6_expectedWalks_18
def fX6_beginTrial (μ : Mem) : Option (Mem) := ((fX6_copyRow (0 : Int32) (1 : Int32) μ).bind fun q1 => (some (wI q1 62 0 0 (208 : Int32))))
set_option maxHeartbeats 4000000 in
set_option maxRecDepth 100000 in
theorem okX6_beginTrial (l : Launch) (cy : Nat → ClassId) (D : va_G) (B : Nat) (ek : EK) (σ μ ω : Mem) (res : Mem) (h : fX6_beginTrial μ = some res) : CT l cy D B ek yX6_beginTrial cX6_beginTrial 1 none ({ frames := 1, cells := 0, slots := 0, locals := 23 } : Room) [.ref (B + oMd)] σ μ ω none σ res ω := by
  refine met_X (own := "HostelBedsModel") (by decide) rfl (Nat.le_of_ble_eq_true rfl) ?_
  intro p e s m args below meth c C hrT hlk
  have hret : ∀ (pc9 : Nat) (lcs9 : List (Nat × Value)), decode cX6_beginTrial pc9 = .ok (.return_, 1) → X p l e ({ frames := 1, cells := 0, slots := 0, locals := 23 } : Room) s m args below meth c 1 cy D B 0 0 (MQ below (QR cy D B none σ res ω) args s 0 0 (aB B)) pc9 lcs9 [] σ res ω := fun _ _ hd => x_vret C hrT hlk hd
  generalize (MQ below (QR cy D B none σ res ω) args s 0 0 (aB B)) = Q at hret ⊢
  obtain ⟨R, hR9⟩ : ∃ R : Room, R = ({ frames := 1, cells := 0, slots := 0, locals := 23 } : Room) := ⟨_, rfl⟩
  rw [← hR9] at hret ⊢
  unfold fX6_beginTrial at h
  show X p l e R s m args below meth c 1 cy D B 0 0 Q 0 [(0, .ref (B + oMd))] [] σ μ ω
  refine x_aload_n C dX6_beginTrial_0 rfl 0 rfl ?_
  refine x_iconst C (v := 0) dX6_beginTrial_1 (by decide) ?_
  refine x_iconst C (v := 1) dX6_beginTrial_2 (by decide) ?_
  obtain ⟨q1, hk1, h⟩ := Option.bind_eq_some_iff.mp h
  refine x_callV C (As := [.int (0 : Int32), .int (1 : Int32)]) (rest := []) (lw_g_mk tw_1129 rfl) (lw_g_mk tsel_17 rfl) (c_Md) (C1 := "HostelBedsModel") (T := TX6) (N := 27) (ci := 6) rfl (okX6_copyRow l cy D B ek (0 : Int32) (1 : Int32) σ μ ω _ hk1) rfl rfl (by rw [hR9]; decide) (lw_g_mk tw_1130 rfl) (lw_g_mk tw_7 rfl) (by decide) rfl (lw_g_mk tw_1127 rfl) rfl (Nat.le_of_ble_eq_true rfl) dX6_beginTrial_3 (by rw [hR9]; decide) ?_
  refine x_aload_n C dX6_beginTrial_6 rfl 0 rfl ?_
  refine x_sipush C (v := 208) dX6_beginTrial_7 (by decide) ?_
  refine x_put C (C1 := "HostelBedsModel") (T := TX6) (N := 27) (ci := 6) inXg6 tyX6 tyX6_ok nmX6 _ (c_Md) rfl 2 (by decide) (lw_g_mk tw_1133 rfl) rfl rfl rfl rfl (Nat.le_of_ble_eq_true rfl) dX6_beginTrial_10 (s_Md_at) ?_
  cases h
  exact hret _ _ dX6_beginTrial_13
def jX6_isGroup_44 : Option (Int32) := (some ((0 : Int32)))
def jX6_isGroup_20 (p2 : Int32) (p1 : Int32) (p3 : Int32) (t2 : Int32) : Option (Int32) := ((fX6_isIn p2 t2 ((12 : Int32) - p1)).bind fun q3 => (if q3 = 0 then (jX6_isGroup_44) else ((fX6_isIn p3 (0 : Int32) (99 : Int32)).bind fun q4 => (if q4 = 0 then (jX6_isGroup_44) else (some ((1 : Int32)))))))
def fX6_isGroup (p1 : Int32) (p2 : Int32) (p3 : Int32) : Option (Int32) := ((fX6_isIn p1 (0 : Int32) (12 : Int32)).bind fun q1 => (if q1 = 0 then (jX6_isGroup_44) else (if ¬ p1 = 0 then (jX6_isGroup_20 p2 p1 p3 (0 : Int32)) else (jX6_isGroup_20 p2 p1 p3 (1 : Int32)))))
set_option maxHeartbeats 4000000 in
set_option maxRecDepth 100000 in
theorem okX6_isGroup (l : Launch) (cy : Nat → ClassId) (D : va_G) (B : Nat) (ek : EK) (p1 : Int32) (p2 : Int32) (p3 : Int32) (σ μ ω : Mem) (res : Int32) (h : fX6_isGroup p1 p2 p3 = some res) : CT l cy D B ek yX6_isGroup cX6_isGroup 3 (some .boolean) ({ frames := 1, cells := 0, slots := 0, locals := 22 } : Room) [.int p1, .int p2, .int p3] σ μ ω (some (.int res)) σ μ ω := by
  refine met_X (own := "HostelBedsModel") (by decide) rfl (Nat.le_of_ble_eq_true rfl) ?_
  intro p e s m args below meth c C hrT hlk
  have hret : ∀ (pc9 : Nat) (lcs9 : List (Nat × Value)), decode cX6_isGroup pc9 = .ok (.ireturn, 1) → narrow .boolean (.int res) = .int res → X p l e ({ frames := 1, cells := 0, slots := 0, locals := 22 } : Room) s m args below meth c 3 cy D B 0 0 (MQ below (QR cy D B (some (.int res)) σ μ ω) args s 0 0 (aB B)) pc9 lcs9 [.int res] σ μ ω := fun _ _ hd hn => x_zret C hrT hlk hn hd
  generalize (MQ below (QR cy D B (some (.int res)) σ μ ω) args s 0 0 (aB B)) = Q at hret ⊢
  obtain ⟨R, hR9⟩ : ∃ R : Room, R = ({ frames := 1, cells := 0, slots := 0, locals := 22 } : Room) := ⟨_, rfl⟩
  rw [← hR9] at hret ⊢
  unfold fX6_isGroup at h
  show X p l e R s m args below meth c 3 cy D B 0 0 Q 0 [(0, .int p1), (1, .int p2), (2, .int p3)] [] σ μ ω
  refine x_iload_n C dX6_isGroup_0 rfl 0 rfl ?_
  refine x_iconst C (v := 0) dX6_isGroup_1 (by decide) ?_
  refine x_bipush C (v := 12) dX6_isGroup_2 (by decide) ?_
  obtain ⟨q1, hk1, h⟩ := Option.bind_eq_some_iff.mp h
  refine x_callS C (As := [.int p1, .int (0 : Int32), .int (12 : Int32)]) (rest := []) (lw_g_mk tw_1235 rfl) (okX6_isIn l cy D B ek p1 (0 : Int32) (12 : Int32) σ μ ω _ hk1) rfl rfl (by rw [hR9]; decide) (lw_g_mk tw_1236 rfl) (lw_g_mk tw_7 rfl) (by decide) rfl (lw_g_mk tw_1234 rfl) rfl (Nat.le_of_ble_eq_true rfl) dX6_isGroup_4 (by rw [hR9]; decide) ?_
  have hJ2 : ∀ (r9 : Int32), jX6_isGroup_44 = some r9 → (∀ (pc9 : Nat) (lcs9 : List (Nat × Value)), decode cX6_isGroup pc9 = .ok (.ireturn, 1) → narrow .boolean (.int r9) = .int r9 → X p l e R s m args below meth c 3 cy D B 0 0 Q pc9 lcs9 [.int r9] σ μ ω) → X p l e R s m args below meth c 3 cy D B 0 0 Q 44 [] [] σ μ ω := by
    intro res9 h hret
    unfold jX6_isGroup_44 at h
    refine x_iconst C (v := 0) dX6_isGroup_44 (by decide) ?_
    cases h
    exact hret _ _ dX6_isGroup_45 (nar_Z (Or.inl rfl))
  refine x_if_eq C (tgt := 44) dX6_isGroup_7 (by decide) (fun hc3 => ?_) (fun hc3 => ?_)
  · rw [if_pos hc3] at h
    refine x_sub [] rfl ?_
    exact hJ2 _ h hret
  · rw [if_neg hc3] at h
    refine x_iload_n C dX6_isGroup_10 rfl 1 rfl ?_
    refine x_iload_n C dX6_isGroup_11 rfl 0 rfl ?_
    have hJ8 : ∀ (t2 : Int32) (r9 : Int32), jX6_isGroup_20 p2 p1 p3 t2 = some r9 → (∀ (pc9 : Nat) (lcs9 : List (Nat × Value)), decode cX6_isGroup pc9 = .ok (.ireturn, 1) → narrow .boolean (.int r9) = .int r9 → X p l e R s m args below meth c 3 cy D B 0 0 Q pc9 lcs9 [.int r9] σ μ ω) → X p l e R s m args below meth c 3 cy D B 0 0 Q 20 [(0, .int p1), (2, .int p3)] [.int t2, .int p2] σ μ ω := by
      intro t2 res9 h hret
      unfold jX6_isGroup_20 at h
      refine x_bipush C (v := 12) dX6_isGroup_20 (by decide) ?_
      refine x_iload_n C dX6_isGroup_22 rfl 0 rfl ?_
      refine x_isub C dX6_isGroup_23 ?_
      obtain ⟨q3, hk4, h⟩ := Option.bind_eq_some_iff.mp h
      refine x_callS C (As := [.int p2, .int t2, .int ((12 : Int32) - p1)]) (rest := []) (lw_g_mk tw_1235 rfl) (okX6_isIn l cy D B ek p2 t2 ((12 : Int32) - p1) σ μ ω _ hk4) rfl rfl (by rw [hR9]; decide) (lw_g_mk tw_1236 rfl) (lw_g_mk tw_7 rfl) (by decide) rfl (lw_g_mk tw_1234 rfl) rfl (Nat.le_of_ble_eq_true rfl) dX6_isGroup_24 (by rw [hR9]; decide) ?_
      refine x_if_eq C (tgt := 44) dX6_isGroup_27 (by decide) (fun hc5 => ?_) (fun hc5 => ?_)
      · rw [if_pos hc5] at h
        refine x_sub [] rfl ?_
        exact hJ2 _ h hret
      · rw [if_neg hc5] at h
        refine x_iload_n C dX6_isGroup_30 rfl 1 rfl ?_
        refine x_iconst C (v := 0) dX6_isGroup_31 (by decide) ?_
        refine x_bipush C (v := 99) dX6_isGroup_32 (by decide) ?_
        obtain ⟨q4, hk6, h⟩ := Option.bind_eq_some_iff.mp h
        refine x_callS C (As := [.int p3, .int (0 : Int32), .int (99 : Int32)]) (rest := []) (lw_g_mk tw_1235 rfl) (okX6_isIn l cy D B ek p3 (0 : Int32) (99 : Int32) σ μ ω _ hk6) rfl rfl (by rw [hR9]; decide) (lw_g_mk tw_1236 rfl) (lw_g_mk tw_7 rfl) (by decide) rfl (lw_g_mk tw_1234 rfl) rfl (Nat.le_of_ble_eq_true rfl) dX6_isGroup_34 (by rw [hR9]; decide) ?_
        refine x_if_eq C (tgt := 44) dX6_isGroup_37 (by decide) (fun hc7 => ?_) (fun hc7 => ?_)
        · rw [if_pos hc7] at h
          refine x_sub [] rfl ?_
          exact hJ2 _ h hret
        · rw [if_neg hc7] at h
          refine x_iconst C (v := 1) dX6_isGroup_40 (by decide) ?_
          refine x_goto C (tgt := 45) dX6_isGroup_41 (by decide) ?_
          cases h
          exact hret _ _ dX6_isGroup_45 (nar_Z (Or.inr rfl))
    refine x_if_ne C (tgt := 19) dX6_isGroup_12 (by decide) (fun hc9 => ?_) (fun hc9 => ?_)
    · rw [if_pos hc9] at h
      refine x_iconst C (v := 0) dX6_isGroup_19 (by decide) ?_
      refine x_sub [0, 2] rfl ?_
      exact hJ8 (0 : Int32) _ h hret
    · rw [if_neg hc9] at h
      refine x_iconst C (v := 1) dX6_isGroup_15 (by decide) ?_
      refine x_goto C (tgt := 20) dX6_isGroup_16 (by decide) ?_
      refine x_sub [0, 2] rfl ?_
      exact hJ8 (1 : Int32) _ h hret
def jX6_isStay_23 : Option (Int32) := (some ((0 : Int32)))
def fX6_isStay (p1 : Int32) (p2 : Int32) : Option (Int32) := ((fX6_isNight p1).bind fun q1 => (if q1 = 0 then (jX6_isStay_23) else ((fX6_isIn p2 (1 : Int32) ((30 : Int32) - p1)).bind fun q2 => (if q2 = 0 then (jX6_isStay_23) else (some ((1 : Int32)))))))
set_option maxHeartbeats 4000000 in
set_option maxRecDepth 100000 in
theorem okX6_isStay (l : Launch) (cy : Nat → ClassId) (D : va_G) (B : Nat) (ek : EK) (p1 : Int32) (p2 : Int32) (σ μ ω : Mem) (res : Int32) (h : fX6_isStay p1 p2 = some res) : CT l cy D B ek yX6_isStay cX6_isStay 2 (some .boolean) ({ frames := 2, cells := 0, slots := 0, locals := 42 } : Room) [.int p1, .int p2] σ μ ω (some (.int res)) σ μ ω := by
  refine met_X (own := "HostelBedsModel") (by decide) rfl (Nat.le_of_ble_eq_true rfl) ?_
  intro p e s m args below meth c C hrT hlk
  have hret : ∀ (pc9 : Nat) (lcs9 : List (Nat × Value)), decode cX6_isStay pc9 = .ok (.ireturn, 1) → narrow .boolean (.int res) = .int res → X p l e ({ frames := 2, cells := 0, slots := 0, locals := 42 } : Room) s m args below meth c 2 cy D B 0 0 (MQ below (QR cy D B (some (.int res)) σ μ ω) args s 0 0 (aB B)) pc9 lcs9 [.int res] σ μ ω := fun _ _ hd hn => x_zret C hrT hlk hn hd
  generalize (MQ below (QR cy D B (some (.int res)) σ μ ω) args s 0 0 (aB B)) = Q at hret ⊢
  obtain ⟨R, hR9⟩ : ∃ R : Room, R = ({ frames := 2, cells := 0, slots := 0, locals := 42 } : Room) := ⟨_, rfl⟩
  rw [← hR9] at hret ⊢
  unfold fX6_isStay at h
  show X p l e R s m args below meth c 2 cy D B 0 0 Q 0 [(0, .int p1), (1, .int p2)] [] σ μ ω
  refine x_iload_n C dX6_isStay_0 rfl 0 rfl ?_
  obtain ⟨q1, hk1, h⟩ := Option.bind_eq_some_iff.mp h
  refine x_callS C (As := [.int p1]) (rest := []) (lw_g_mk tw_1536 rfl) (okX6_isNight l cy D B ek p1 σ μ ω _ hk1) rfl rfl (by rw [hR9]; decide) (lw_g_mk tw_1537 rfl) (lw_g_mk tw_7 rfl) (by decide) rfl (lw_g_mk tw_1535 rfl) rfl (Nat.le_of_ble_eq_true rfl) dX6_isStay_1 (by rw [hR9]; decide) ?_
  have hJ2 : ∀ (r9 : Int32), jX6_isStay_23 = some r9 → (∀ (pc9 : Nat) (lcs9 : List (Nat × Value)), decode cX6_isStay pc9 = .ok (.ireturn, 1) → narrow .boolean (.int r9) = .int r9 → X p l e R s m args below meth c 2 cy D B 0 0 Q pc9 lcs9 [.int r9] σ μ ω) → X p l e R s m args below meth c 2 cy D B 0 0 Q 23 [] [] σ μ ω := by
    intro res9 h hret
    unfold jX6_isStay_23 at h
    refine x_iconst C (v := 0) dX6_isStay_23 (by decide) ?_
    cases h
    exact hret _ _ dX6_isStay_24 (nar_Z (Or.inl rfl))
  refine x_if_eq C (tgt := 23) dX6_isStay_4 (by decide) (fun hc3 => ?_) (fun hc3 => ?_)
  · rw [if_pos hc3] at h
    refine x_sub [] rfl ?_
    exact hJ2 _ h hret
  · rw [if_neg hc3] at h
    refine x_iload_n C dX6_isStay_7 rfl 1 rfl ?_
    refine x_iconst C (v := 1) dX6_isStay_8 (by decide) ?_
    refine x_bipush C (v := 30) dX6_isStay_9 (by decide) ?_
    refine x_iload_n C dX6_isStay_11 rfl 0 rfl ?_
    refine x_isub C dX6_isStay_12 ?_
    obtain ⟨q2, hk4, h⟩ := Option.bind_eq_some_iff.mp h
    refine x_callS C (As := [.int p2, .int (1 : Int32), .int ((30 : Int32) - p1)]) (rest := []) (lw_g_mk tw_1235 rfl) (okX6_isIn l cy D B ek p2 (1 : Int32) ((30 : Int32) - p1) σ μ ω _ hk4) rfl rfl (by rw [hR9]; decide) (lw_g_mk tw_1236 rfl) (lw_g_mk tw_7 rfl) (by decide) rfl (lw_g_mk tw_1234 rfl) rfl (Nat.le_of_ble_eq_true rfl) dX6_isStay_13 (by rw [hR9]; decide) ?_
    refine x_if_eq C (tgt := 23) dX6_isStay_16 (by decide) (fun hc5 => ?_) (fun hc5 => ?_)
    · rw [if_pos hc5] at h
      refine x_sub [] rfl ?_
      exact hJ2 _ h hret
    · rw [if_neg hc5] at h
      refine x_iconst C (v := 1) dX6_isStay_19 (by decide) ?_
      refine x_goto C (tgt := 24) dX6_isStay_20 (by decide) ?_
      cases h
      exact hret _ _ dX6_isStay_24 (nar_Z (Or.inr rfl))
def fX6_addsAccepted (p1 : Int32) (p2 : Int32) (p3 : Int32) (p4 : Int32) (p5 : Int32) (μ : Mem) : Option (Mem) := ((fX6_laysBooking p1 p2 p3 p4 p5 (0 : Int32) μ).bind fun q1 => ((fX6_get (37 : Int32) q1).bind fun q2 => ((fX6_lay (q2 - (1 : Int32)) (8 : Int32) (1 : Int32) q1).bind fun q3 => (some q3))))
set_option maxHeartbeats 4000000 in
set_option maxRecDepth 100000 in
theorem okX6_addsAccepted (l : Launch) (cy : Nat → ClassId) (D : va_G) (B : Nat) (ek : EK) (p1 : Int32) (p2 : Int32) (p3 : Int32) (p4 : Int32) (p5 : Int32) (σ μ ω : Mem) (res : Mem) (h : fX6_addsAccepted p1 p2 p3 p4 p5 μ = some res) : CT l cy D B ek yX6_addsAccepted cX6_addsAccepted 6 none ({ frames := 3, cells := 0, slots := 0, locals := 72 } : Room) [.ref (B + oMd), .int p1, .int p2, .int p3, .int p4, .int p5] σ μ ω none σ res ω := by
  refine met_X (own := "HostelBedsModel") (by decide) rfl (Nat.le_of_ble_eq_true rfl) ?_
  intro p e s m args below meth c C hrT hlk
  have hret : ∀ (pc9 : Nat) (lcs9 : List (Nat × Value)), decode cX6_addsAccepted pc9 = .ok (.return_, 1) → X p l e ({ frames := 3, cells := 0, slots := 0, locals := 72 } : Room) s m args below meth c 6 cy D B 0 0 (MQ below (QR cy D B none σ res ω) args s 0 0 (aB B)) pc9 lcs9 [] σ res ω := fun _ _ hd => x_vret C hrT hlk hd
  generalize (MQ below (QR cy D B none σ res ω) args s 0 0 (aB B)) = Q at hret ⊢
  obtain ⟨R, hR9⟩ : ∃ R : Room, R = ({ frames := 3, cells := 0, slots := 0, locals := 72 } : Room) := ⟨_, rfl⟩
  rw [← hR9] at hret ⊢
  unfold fX6_addsAccepted at h
  show X p l e R s m args below meth c 6 cy D B 0 0 Q 0 [(0, .ref (B + oMd)), (1, .int p1), (2, .int p2), (3, .int p3), (4, .int p4), (5, .int p5)] [] σ μ ω
  refine x_aload_n C dX6_addsAccepted_0 rfl 0 rfl ?_
  refine x_iload_n C dX6_addsAccepted_1 rfl 1 rfl ?_
  refine x_iload_n C dX6_addsAccepted_2 rfl 2 rfl ?_
  refine x_iload_n C dX6_addsAccepted_3 rfl 3 rfl ?_
  refine x_iload C dX6_addsAccepted_4 4 rfl ?_
  refine x_iload C dX6_addsAccepted_6 5 rfl ?_
  refine x_iconst C (v := 0) dX6_addsAccepted_8 (by decide) ?_
  obtain ⟨q1, hk1, h⟩ := Option.bind_eq_some_iff.mp h
  refine x_callV C (As := [.int p1, .int p2, .int p3, .int p4, .int p5, .int (0 : Int32)]) (rest := []) (lw_g_mk tw_1339 rfl) (lw_g_mk tsel_41 rfl) (c_Md) (C1 := "HostelBedsModel") (T := TX6) (N := 27) (ci := 6) rfl (okX6_laysBooking l cy D B ek p1 p2 p3 p4 p5 (0 : Int32) σ μ ω _ hk1) rfl rfl (by rw [hR9]; decide) (lw_g_mk tw_1340 rfl) (lw_g_mk tw_7 rfl) (by decide) rfl (lw_g_mk tw_1337 rfl) rfl (Nat.le_of_ble_eq_true rfl) dX6_addsAccepted_9 (by rw [hR9]; decide) ?_
  refine x_aload_n C dX6_addsAccepted_12 rfl 0 rfl ?_
  refine x_aload_n C dX6_addsAccepted_13 rfl 0 rfl ?_
  refine x_bipush C (v := 37) dX6_addsAccepted_14 (by decide) ?_
  obtain ⟨q2, hk2, h⟩ := Option.bind_eq_some_iff.mp h
  refine x_callV C (As := [.int (37 : Int32)]) (rest := [.ref (B + oMd)]) (lw_g_mk tw_1296 rfl) (lw_g_mk tsel_31 rfl) (c_Md) (C1 := "HostelBedsModel") (T := TX6) (N := 27) (ci := 6) rfl (okX6_get l cy D B ek (37 : Int32) σ q1 ω _ hk2) rfl rfl (by rw [hR9]; decide) (lw_g_mk tw_1297 rfl) (lw_g_mk tw_7 rfl) (by decide) rfl (lw_g_mk tw_1294 rfl) rfl (Nat.le_of_ble_eq_true rfl) dX6_addsAccepted_16 (by rw [hR9]; decide) ?_
  refine x_iconst C (v := 1) dX6_addsAccepted_19 (by decide) ?_
  refine x_isub C dX6_addsAccepted_20 ?_
  refine x_bipush C (v := 8) dX6_addsAccepted_21 (by decide) ?_
  refine x_iconst C (v := 1) dX6_addsAccepted_23 (by decide) ?_
  obtain ⟨q3, hk3, h⟩ := Option.bind_eq_some_iff.mp h
  refine x_callV C (As := [.int (q2 - (1 : Int32)), .int (8 : Int32), .int (1 : Int32)]) (rest := []) (lw_g_mk tw_1343 rfl) (lw_g_mk tsel_42 rfl) (c_Md) (C1 := "HostelBedsModel") (T := TX6) (N := 27) (ci := 6) rfl (okX6_lay l cy D B ek (q2 - (1 : Int32)) (8 : Int32) (1 : Int32) σ q1 ω _ hk3) rfl rfl (by rw [hR9]; decide) (lw_g_mk tw_1344 rfl) (lw_g_mk tw_7 rfl) (by decide) rfl (lw_g_mk tw_1341 rfl) rfl (Nat.le_of_ble_eq_true rfl) dX6_addsAccepted_24 (by rw [hR9]; decide) ?_
  cases h
  exact hret _ _ dX6_addsAccepted_27
def jX6_wouldBe_24 (μ : Mem) : Option (Int32 × Mem) := ((fX6_fails (1 : Int32) (wI μ 60 0 0 (0 : Int32))).bind fun q2 => (some (q2.1, q2.2)))
def fX6_wouldBe (p1 : Int32) (p2 : Int32) (p3 : Int32) (p4 : Int32) (p5 : Int32) (μ : Mem) : Option (Int32 × Mem) := ((fX6_isStay p1 p2).bind fun q1 => (if q1 = 0 then (jX6_wouldBe_24 μ) else ((fX6_isGroup p3 p4 p5).bind fun q3 => (if ¬ q3 = 0 then ((fX6_beginTrial (wI μ 60 0 0 (0 : Int32))).bind fun q4 => ((fX6_addsAccepted p1 p2 p3 p4 p5 q4).bind fun q5 => ((fX6_placesAll q5).bind fun q6 => ((fX6_get (37 : Int32) q6).bind fun q7 => (gd (inb (q7 - (1 : Int32)) 17) (some (rI q6 77 0 (q7 - (1 : Int32)).toNatClampNeg, wI q6 62 0 0 (0 : Int32)))))))) else (jX6_wouldBe_24 μ)))))
set_option maxHeartbeats 4000000 in
set_option maxRecDepth 100000 in
theorem okX6_wouldBe (l : Launch) (cy : Nat → ClassId) (D : va_G) (B : Nat) (ek : EK) (p1 : Int32) (p2 : Int32) (p3 : Int32) (p4 : Int32) (p5 : Int32) (σ μ ω : Mem) (res : Int32 × Mem) (h : fX6_wouldBe p1 p2 p3 p4 p5 μ = some res) : CT l cy D B ek yX6_wouldBe cX6_wouldBe 7 (some .int) ({ frames := 8, cells := 0, slots := 0, locals := 185 } : Room) [.ref (B + oMd), .int p1, .int p2, .int p3, .int p4, .int p5] σ μ ω (some (.int res.1)) σ res.2 ω := by
  refine met_X (own := "HostelBedsModel") (by decide) rfl (Nat.le_of_ble_eq_true rfl) ?_
  intro p e s m args below meth c C hrT hlk
  have hret : ∀ (pc9 : Nat) (lcs9 : List (Nat × Value)), decode cX6_wouldBe pc9 = .ok (.ireturn, 1) → narrow .int (.int res.1) = .int res.1 → X p l e ({ frames := 8, cells := 0, slots := 0, locals := 185 } : Room) s m args below meth c 7 cy D B 0 0 (MQ below (QR cy D B (some (.int res.1)) σ res.2 ω) args s 0 0 (aB B)) pc9 lcs9 [.int res.1] σ res.2 ω := fun _ _ hd hn => x_zret C hrT hlk hn hd
  generalize (MQ below (QR cy D B (some (.int res.1)) σ res.2 ω) args s 0 0 (aB B)) = Q at hret ⊢
  obtain ⟨R, hR9⟩ : ∃ R : Room, R = ({ frames := 8, cells := 0, slots := 0, locals := 185 } : Room) := ⟨_, rfl⟩
  rw [← hR9] at hret ⊢
  unfold fX6_wouldBe at h
  show X p l e R s m args below meth c 7 cy D B 0 0 Q 0 [(0, .ref (B + oMd)), (1, .int p1), (2, .int p2), (3, .int p3), (4, .int p4), (5, .int p5)] [] σ μ ω
  refine x_aload_n C dX6_wouldBe_0 rfl 0 rfl ?_
  refine x_iconst C (v := 0) dX6_wouldBe_1 (by decide) ?_
  refine x_put C (C1 := "HostelBedsModel") (T := TX6) (N := 27) (ci := 6) inXg6 tyX6 tyX6_ok nmX6 _ (c_Md) rfl 0 (by decide) (lw_g_mk tw_1131 rfl) rfl rfl rfl rfl (Nat.le_of_ble_eq_true rfl) dX6_wouldBe_2 (s_Md_thrown) ?_
  refine x_iload_n C dX6_wouldBe_5 rfl 1 rfl ?_
  refine x_iload_n C dX6_wouldBe_6 rfl 2 rfl ?_
  obtain ⟨q1, hk1, h⟩ := Option.bind_eq_some_iff.mp h
  refine x_callS C (As := [.int p1, .int p2]) (rest := []) (lw_g_mk tw_1632 rfl) (okX6_isStay l cy D B ek p1 p2 σ (wI μ 60 0 0 (0 : Int32)) ω _ hk1) rfl rfl (by rw [hR9]; decide) (lw_g_mk tw_1633 rfl) (lw_g_mk tw_7 rfl) (by decide) rfl (lw_g_mk tw_1631 rfl) rfl (Nat.le_of_ble_eq_true rfl) dX6_wouldBe_7 (by rw [hR9]; decide) ?_
  have hJ3 : ∀ (r9 : Int32 × Mem), jX6_wouldBe_24 μ = some r9 → (∀ (pc9 : Nat) (lcs9 : List (Nat × Value)), decode cX6_wouldBe pc9 = .ok (.ireturn, 1) → narrow .int (.int r9.1) = .int r9.1 → X p l e R s m args below meth c 7 cy D B 0 0 Q pc9 lcs9 [.int r9.1] σ r9.2 ω) → X p l e R s m args below meth c 7 cy D B 0 0 Q 24 [(0, .ref (B + oMd))] [] σ (wI μ 60 0 0 (0 : Int32)) ω := by
    intro res9 h hret
    unfold jX6_wouldBe_24 at h
    refine x_aload_n C dX6_wouldBe_24 rfl 0 rfl ?_
    refine x_iconst C (v := 1) dX6_wouldBe_25 (by decide) ?_
    obtain ⟨q2, hk2, h⟩ := Option.bind_eq_some_iff.mp h
    refine x_callV C (As := [.int (1 : Int32)]) (rest := []) (lw_g_mk tw_1224 rfl) (lw_g_mk tsel_18 rfl) (c_Md) (C1 := "HostelBedsModel") (T := TX6) (N := 27) (ci := 6) rfl (okX6_fails l cy D B ek (1 : Int32) σ (wI μ 60 0 0 (0 : Int32)) ω _ hk2) rfl rfl (by rw [hR9]; decide) (lw_g_mk tw_1225 rfl) (lw_g_mk tw_7 rfl) (by decide) rfl (lw_g_mk tw_1222 rfl) rfl (Nat.le_of_ble_eq_true rfl) dX6_wouldBe_26 (by rw [hR9]; decide) ?_
    cases h
    exact hret _ _ dX6_wouldBe_29 rfl
  refine x_if_eq C (tgt := 24) dX6_wouldBe_10 (by decide) (fun hc4 => ?_) (fun hc4 => ?_)
  · rw [if_pos hc4] at h
    refine x_sub [0] rfl ?_
    exact hJ3 _ h hret
  · rw [if_neg hc4] at h
    refine x_iload_n C dX6_wouldBe_13 rfl 3 rfl ?_
    refine x_iload C dX6_wouldBe_14 4 rfl ?_
    refine x_iload C dX6_wouldBe_16 5 rfl ?_
    obtain ⟨q3, hk5, h⟩ := Option.bind_eq_some_iff.mp h
    refine x_callS C (As := [.int p3, .int p4, .int p5]) (rest := []) (lw_g_mk tw_1635 rfl) (okX6_isGroup l cy D B ek p3 p4 p5 σ (wI μ 60 0 0 (0 : Int32)) ω _ hk5) rfl rfl (by rw [hR9]; decide) (lw_g_mk tw_1636 rfl) (lw_g_mk tw_7 rfl) (by decide) rfl (lw_g_mk tw_1634 rfl) rfl (Nat.le_of_ble_eq_true rfl) dX6_wouldBe_18 (by rw [hR9]; decide) ?_
    refine x_if_ne C (tgt := 30) dX6_wouldBe_21 (by decide) (fun hc6 => ?_) (fun hc6 => ?_)
    · rw [if_pos hc6] at h
      refine x_aload_n C dX6_wouldBe_30 rfl 0 rfl ?_
      obtain ⟨q4, hk7, h⟩ := Option.bind_eq_some_iff.mp h
      refine x_callV C (As := []) (rest := []) (lw_g_mk tw_1639 rfl) (lw_g_mk tsel_84 rfl) (c_Md) (C1 := "HostelBedsModel") (T := TX6) (N := 27) (ci := 6) rfl (okX6_beginTrial l cy D B ek σ (wI μ 60 0 0 (0 : Int32)) ω _ hk7) rfl rfl (by rw [hR9]; decide) (lw_g_mk tw_1640 rfl) (lw_g_mk tw_7 rfl) (by decide) rfl (lw_g_mk tw_1637 rfl) rfl (Nat.le_of_ble_eq_true rfl) dX6_wouldBe_31 (by rw [hR9]; decide) ?_
      refine x_aload_n C dX6_wouldBe_34 rfl 0 rfl ?_
      refine x_iload_n C dX6_wouldBe_35 rfl 1 rfl ?_
      refine x_iload_n C dX6_wouldBe_36 rfl 2 rfl ?_
      refine x_iload_n C dX6_wouldBe_37 rfl 3 rfl ?_
      refine x_iload C dX6_wouldBe_38 4 rfl ?_
      refine x_iload C dX6_wouldBe_40 5 rfl ?_
      obtain ⟨q5, hk8, h⟩ := Option.bind_eq_some_iff.mp h
      refine x_callV C (As := [.int p1, .int p2, .int p3, .int p4, .int p5]) (rest := []) (lw_g_mk tw_1643 rfl) (lw_g_mk tsel_85 rfl) (c_Md) (C1 := "HostelBedsModel") (T := TX6) (N := 27) (ci := 6) rfl (okX6_addsAccepted l cy D B ek p1 p2 p3 p4 p5 σ q4 ω _ hk8) rfl rfl (by rw [hR9]; decide) (lw_g_mk tw_1644 rfl) (lw_g_mk tw_7 rfl) (by decide) rfl (lw_g_mk tw_1641 rfl) rfl (Nat.le_of_ble_eq_true rfl) dX6_wouldBe_42 (by rw [hR9]; decide) ?_
      refine x_aload_n C dX6_wouldBe_45 rfl 0 rfl ?_
      obtain ⟨q6, hk9, h⟩ := Option.bind_eq_some_iff.mp h
      refine x_callV C (As := []) (rest := []) (lw_g_mk tw_1451 rfl) (lw_g_mk tsel_60 rfl) (c_Md) (C1 := "HostelBedsModel") (T := TX6) (N := 27) (ci := 6) rfl (okX6_placesAll l cy D B ek σ q5 ω _ hk9) rfl rfl (by rw [hR9]; decide) (lw_g_mk tw_1452 rfl) (lw_g_mk tw_7 rfl) (by decide) rfl (lw_g_mk tw_1449 rfl) rfl (Nat.le_of_ble_eq_true rfl) dX6_wouldBe_46 (by rw [hR9]; decide) ?_
      refine x_aload_n C dX6_wouldBe_49 rfl 0 rfl ?_
      refine x_get C (C1 := "HostelBedsModel") (T := TX6) (N := 27) (ci := 6) inXg6 _ (c_Md) rfl 22 (by decide) (lw_g_mk tw_1153 rfl) rfl dX6_wouldBe_50 ?_
      refine x_aload_n C dX6_wouldBe_53 rfl 0 rfl ?_
      refine x_bipush C (v := 37) dX6_wouldBe_54 (by decide) ?_
      obtain ⟨q7, hk10, h⟩ := Option.bind_eq_some_iff.mp h
      refine x_callV C (As := [.int (37 : Int32)]) (rest := [.ref (B + oBec)]) (lw_g_mk tw_1296 rfl) (lw_g_mk tsel_31 rfl) (c_Md) (C1 := "HostelBedsModel") (T := TX6) (N := 27) (ci := 6) rfl (okX6_get l cy D B ek (37 : Int32) σ q6 ω _ hk10) rfl rfl (by rw [hR9]; decide) (lw_g_mk tw_1297 rfl) (lw_g_mk tw_7 rfl) (by decide) rfl (lw_g_mk tw_1294 rfl) rfl (Nat.le_of_ble_eq_true rfl) dX6_wouldBe_56 (by rw [hR9]; decide) ?_
      refine x_iconst C (v := 1) dX6_wouldBe_59 (by decide) ?_
      refine x_isub C dX6_wouldBe_60 ?_
      obtain ⟨hg11, h⟩ := gd_some h
      refine x_iald C _ (c_Bec) hg11 dX6_wouldBe_61 ?_
      refine x_istore C [(6, .int (rI q6 77 0 (q7 - (1 : Int32)).toNatClampNeg)), (0, .ref (B + oMd)), (1, .int p1), (2, .int p2), (3, .int p3), (4, .int p4), (5, .int p5)] dX6_wouldBe_62 (by decide) rfl ?_
      refine x_aload_n C dX6_wouldBe_64 rfl 1 rfl ?_
      refine x_iconst C (v := 0) dX6_wouldBe_65 (by decide) ?_
      refine x_put C (C1 := "HostelBedsModel") (T := TX6) (N := 27) (ci := 6) inXg6 tyX6 tyX6_ok nmX6 _ (c_Md) rfl 2 (by decide) (lw_g_mk tw_1133 rfl) rfl rfl rfl rfl (Nat.le_of_ble_eq_true rfl) dX6_wouldBe_66 (s_Md_at) ?_
      refine x_iload C dX6_wouldBe_69 0 rfl ?_
      cases h
      exact hret _ _ dX6_wouldBe_71 rfl
    · rw [if_neg hc6] at h
      refine x_sub [0] rfl ?_
      exact hJ3 _ h hret
def jX6_bestStay_22 (μ : Mem) : Option (Int32 × Mem) := ((fX6_fails (1 : Int32) (wI μ 60 0 0 (0 : Int32))).bind fun q2 => (some (q2.1, q2.2)))
def jX6_bestStay_90 (a37 : Int32 × Int32 × Int32 × Mem) (q6 : Int32 × Mem) (x7 : Int32) (x8 : Int32) : Option ((Int32 × Int32 × Int32 × Mem) ⊕ (Int32 × Mem)) := (some (.inl (x7, x8, a37.2.2.1 + (1 : Int32), q6.2)))
def jX6_bestStay_82 (a37 : Int32 × Int32 × Int32 × Mem) (q6 : Int32 × Mem) : Option ((Int32 × Int32 × Int32 × Mem) ⊕ (Int32 × Mem)) := (jX6_bestStay_90 a37 q6 a37.2.2.1 q6.1)
def stX6_bestStay_37 (p1 : Int32) (p2 : Int32) (p3 : Int32) (p4 : Int32) (a37 : Int32 × Int32 × Int32 × Mem) : Option ((Int32 × Int32 × Int32 × Mem) ⊕ (Int32 × Mem)) := (if ((30 : Int32) - p1) < a37.2.2.1 then (some (.inr (a37.1, a37.2.2.2))) else ((fX6_beginTrial a37.2.2.2).bind fun q4 => ((fX6_addsAccepted p1 a37.2.2.1 p2 p3 p4 q4).bind fun q5 => ((fX6_netNow q5).bind fun q6 => (if a37.1 ≤ 0 then (jX6_bestStay_82 a37 q6) else (if a37.2.1 < q6.1 then (jX6_bestStay_82 a37 q6) else (jX6_bestStay_90 a37 q6 a37.1 a37.2.1)))))))
def fX6_bestStay (p1 : Int32) (p2 : Int32) (p3 : Int32) (p4 : Int32) (μ : Mem) : Option (Int32 × Mem) := ((fX6_isNight p1).bind fun q1 => (if q1 = 0 then (jX6_bestStay_22 μ) else ((fX6_isGroup p2 p3 p4).bind fun q3 => (if ¬ q3 = 0 then ((loop (stX6_bestStay_37 p1 p2 p3 p4) 5000 ((0 : Int32), (0 : Int32), (1 : Int32), wI μ 60 0 0 (0 : Int32))).bind fun b37 => (some (b37.1, wI b37.2 62 0 0 (0 : Int32)))) else (jX6_bestStay_22 μ)))))
set_option maxHeartbeats 4000000 in
set_option maxRecDepth 100000 in
theorem okX6_bestStay (l : Launch) (cy : Nat → ClassId) (D : va_G) (B : Nat) (ek : EK) (p1 : Int32) (p2 : Int32) (p3 : Int32) (p4 : Int32) (σ μ ω : Mem) (res : Int32 × Mem) (h : fX6_bestStay p1 p2 p3 p4 μ = some res) : CT l cy D B ek yX6_bestStay cX6_bestStay 9 (some .int) ({ frames := 9, cells := 0, slots := 0, locals := 207 } : Room) [.ref (B + oMd), .int p1, .int p2, .int p3, .int p4] σ μ ω (some (.int res.1)) σ res.2 ω := by
  refine met_X (own := "HostelBedsModel") (by decide) rfl (Nat.le_of_ble_eq_true rfl) ?_
  intro p e s m args below meth c C hrT hlk
  have hret : ∀ (pc9 : Nat) (lcs9 : List (Nat × Value)), decode cX6_bestStay pc9 = .ok (.ireturn, 1) → narrow .int (.int res.1) = .int res.1 → X p l e ({ frames := 9, cells := 0, slots := 0, locals := 207 } : Room) s m args below meth c 9 cy D B 0 0 (MQ below (QR cy D B (some (.int res.1)) σ res.2 ω) args s 0 0 (aB B)) pc9 lcs9 [.int res.1] σ res.2 ω := fun _ _ hd hn => x_zret C hrT hlk hn hd
  generalize (MQ below (QR cy D B (some (.int res.1)) σ res.2 ω) args s 0 0 (aB B)) = Q at hret ⊢
  obtain ⟨R, hR9⟩ : ∃ R : Room, R = ({ frames := 9, cells := 0, slots := 0, locals := 207 } : Room) := ⟨_, rfl⟩
  rw [← hR9] at hret ⊢
  unfold fX6_bestStay at h
  show X p l e R s m args below meth c 9 cy D B 0 0 Q 0 [(0, .ref (B + oMd)), (1, .int p1), (2, .int p2), (3, .int p3), (4, .int p4)] [] σ μ ω
  refine x_aload_n C dX6_bestStay_0 rfl 0 rfl ?_
  refine x_iconst C (v := 0) dX6_bestStay_1 (by decide) ?_
  refine x_put C (C1 := "HostelBedsModel") (T := TX6) (N := 27) (ci := 6) inXg6 tyX6 tyX6_ok nmX6 _ (c_Md) rfl 0 (by decide) (lw_g_mk tw_1131 rfl) rfl rfl rfl rfl (Nat.le_of_ble_eq_true rfl) dX6_bestStay_2 (s_Md_thrown) ?_
  refine x_iload_n C dX6_bestStay_5 rfl 1 rfl ?_
  obtain ⟨q1, hk1, h⟩ := Option.bind_eq_some_iff.mp h
  refine x_callS C (As := [.int p1]) (rest := []) (lw_g_mk tw_1536 rfl) (okX6_isNight l cy D B ek p1 σ (wI μ 60 0 0 (0 : Int32)) ω _ hk1) rfl rfl (by rw [hR9]; decide) (lw_g_mk tw_1537 rfl) (lw_g_mk tw_7 rfl) (by decide) rfl (lw_g_mk tw_1535 rfl) rfl (Nat.le_of_ble_eq_true rfl) dX6_bestStay_6 (by rw [hR9]; decide) ?_
  have hJ3 : ∀ (r9 : Int32 × Mem), jX6_bestStay_22 μ = some r9 → (∀ (pc9 : Nat) (lcs9 : List (Nat × Value)), decode cX6_bestStay pc9 = .ok (.ireturn, 1) → narrow .int (.int r9.1) = .int r9.1 → X p l e R s m args below meth c 9 cy D B 0 0 Q pc9 lcs9 [.int r9.1] σ r9.2 ω) → X p l e R s m args below meth c 9 cy D B 0 0 Q 22 [(0, .ref (B + oMd))] [] σ (wI μ 60 0 0 (0 : Int32)) ω := by
    intro res9 h hret
    unfold jX6_bestStay_22 at h
    refine x_aload_n C dX6_bestStay_22 rfl 0 rfl ?_
    refine x_iconst C (v := 1) dX6_bestStay_23 (by decide) ?_
    obtain ⟨q2, hk2, h⟩ := Option.bind_eq_some_iff.mp h
    refine x_callV C (As := [.int (1 : Int32)]) (rest := []) (lw_g_mk tw_1224 rfl) (lw_g_mk tsel_18 rfl) (c_Md) (C1 := "HostelBedsModel") (T := TX6) (N := 27) (ci := 6) rfl (okX6_fails l cy D B ek (1 : Int32) σ (wI μ 60 0 0 (0 : Int32)) ω _ hk2) rfl rfl (by rw [hR9]; decide) (lw_g_mk tw_1225 rfl) (lw_g_mk tw_7 rfl) (by decide) rfl (lw_g_mk tw_1222 rfl) rfl (Nat.le_of_ble_eq_true rfl) dX6_bestStay_24 (by rw [hR9]; decide) ?_
    cases h
    exact hret _ _ dX6_bestStay_27 rfl
  refine x_if_eq C (tgt := 22) dX6_bestStay_9 (by decide) (fun hc4 => ?_) (fun hc4 => ?_)
  · rw [if_pos hc4] at h
    refine x_sub [0] rfl ?_
    exact hJ3 _ h hret
  · rw [if_neg hc4] at h
    refine x_iload_n C dX6_bestStay_12 rfl 2 rfl ?_
    refine x_iload_n C dX6_bestStay_13 rfl 3 rfl ?_
    refine x_iload C dX6_bestStay_14 4 rfl ?_
    obtain ⟨q3, hk5, h⟩ := Option.bind_eq_some_iff.mp h
    refine x_callS C (As := [.int p2, .int p3, .int p4]) (rest := []) (lw_g_mk tw_1635 rfl) (okX6_isGroup l cy D B ek p2 p3 p4 σ (wI μ 60 0 0 (0 : Int32)) ω _ hk5) rfl rfl (by rw [hR9]; decide) (lw_g_mk tw_1636 rfl) (lw_g_mk tw_7 rfl) (by decide) rfl (lw_g_mk tw_1634 rfl) rfl (Nat.le_of_ble_eq_true rfl) dX6_bestStay_16 (by rw [hR9]; decide) ?_
    refine x_if_ne C (tgt := 28) dX6_bestStay_19 (by decide) (fun hc6 => ?_) (fun hc6 => ?_)
    · rw [if_pos hc6] at h
      refine x_iconst C (v := 0) dX6_bestStay_28 (by decide) ?_
      refine x_istore C [(5, .int (0 : Int32)), (0, .ref (B + oMd)), (1, .int p1), (2, .int p2), (3, .int p3), (4, .int p4)] dX6_bestStay_29 (by decide) rfl ?_
      refine x_iconst C (v := 0) dX6_bestStay_31 (by decide) ?_
      refine x_istore C [(6, .int (0 : Int32)), (5, .int (0 : Int32)), (0, .ref (B + oMd)), (1, .int p1), (2, .int p2), (3, .int p3), (4, .int p4)] dX6_bestStay_32 (by decide) rfl ?_
      refine x_iconst C (v := 1) dX6_bestStay_34 (by decide) ?_
      refine x_istore C [(7, .int (1 : Int32)), (6, .int (0 : Int32)), (5, .int (0 : Int32)), (0, .ref (B + oMd)), (1, .int p1), (2, .int p2), (3, .int p3), (4, .int p4)] dX6_bestStay_35 (by decide) rfl ?_
      obtain ⟨b37, hk17, h⟩ := Option.bind_eq_some_iff.mp h
      refine x_sub [3, 4, 5, 6, 7, 2, 1, 0] rfl ?_
      refine loop_run (step := stX6_bestStay_37 p1 p2 p3 p4) (P := fun (a37 : Int32 × Int32 × Int32 × Mem) => X p l e R s m args below meth c 9 cy D B 0 0 Q 37 [(0, .ref (B + oMd)), (1, .int p1), (2, .int p2), (3, .int p3), (4, .int p4), (5, .int a37.1), (6, .int a37.2.1), (7, .int a37.2.2.1)] [] σ a37.2.2.2 ω) (K := fun (b37 : Int32 × Mem) => X p l e R s m args below meth c 9 cy D B 0 0 Q 96 [(0, .ref (B + oMd)), (5, .int b37.1)] [] σ b37.2 ω) ?_ 5000 ((0 : Int32), (0 : Int32), (1 : Int32), wI μ 60 0 0 (0 : Int32)) b37 hk17 ?_
      · intro a37 r h hA7 hB8
        unfold stX6_bestStay_37 at h
        refine x_iload C dX6_bestStay_37 7 rfl ?_
        refine x_bipush C (v := 30) dX6_bestStay_39 (by decide) ?_
        refine x_iload_n C dX6_bestStay_41 rfl 1 rfl ?_
        refine x_isub C dX6_bestStay_42 ?_
        refine x_icmp_gt C (tgt := 96) dX6_bestStay_43 (by decide) (fun hc9 => ?_) (fun hc9 => ?_)
        · rw [if_pos hc9] at h
          cases h
          refine x_sub [0, 5] rfl ?_
          exact hB8 (a37.1, a37.2.2.2) rfl
        · rw [if_neg hc9] at h
          refine x_aload_n C dX6_bestStay_46 rfl 0 rfl ?_
          obtain ⟨q4, hk10, h⟩ := Option.bind_eq_some_iff.mp h
          refine x_callV C (As := []) (rest := []) (lw_g_mk tw_1639 rfl) (lw_g_mk tsel_84 rfl) (c_Md) (C1 := "HostelBedsModel") (T := TX6) (N := 27) (ci := 6) rfl (okX6_beginTrial l cy D B ek σ a37.2.2.2 ω _ hk10) rfl rfl (by rw [hR9]; decide) (lw_g_mk tw_1640 rfl) (lw_g_mk tw_7 rfl) (by decide) rfl (lw_g_mk tw_1637 rfl) rfl (Nat.le_of_ble_eq_true rfl) dX6_bestStay_47 (by rw [hR9]; decide) ?_
          refine x_aload_n C dX6_bestStay_50 rfl 0 rfl ?_
          refine x_iload_n C dX6_bestStay_51 rfl 1 rfl ?_
          refine x_iload C dX6_bestStay_52 7 rfl ?_
          refine x_iload_n C dX6_bestStay_54 rfl 2 rfl ?_
          refine x_iload_n C dX6_bestStay_55 rfl 3 rfl ?_
          refine x_iload C dX6_bestStay_56 4 rfl ?_
          obtain ⟨q5, hk11, h⟩ := Option.bind_eq_some_iff.mp h
          refine x_callV C (As := [.int p1, .int a37.2.2.1, .int p2, .int p3, .int p4]) (rest := []) (lw_g_mk tw_1643 rfl) (lw_g_mk tsel_85 rfl) (c_Md) (C1 := "HostelBedsModel") (T := TX6) (N := 27) (ci := 6) rfl (okX6_addsAccepted l cy D B ek p1 a37.2.2.1 p2 p3 p4 σ q4 ω _ hk11) rfl rfl (by rw [hR9]; decide) (lw_g_mk tw_1644 rfl) (lw_g_mk tw_7 rfl) (by decide) rfl (lw_g_mk tw_1641 rfl) rfl (Nat.le_of_ble_eq_true rfl) dX6_bestStay_58 (by rw [hR9]; decide) ?_
          refine x_aload_n C dX6_bestStay_61 rfl 0 rfl ?_
          obtain ⟨q6, hk12, h⟩ := Option.bind_eq_some_iff.mp h
          refine x_callV C (As := []) (rest := []) (lw_g_mk tw_1608 rfl) (lw_g_mk tsel_82 rfl) (c_Md) (C1 := "HostelBedsModel") (T := TX6) (N := 27) (ci := 6) rfl (okX6_netNow l cy D B ek σ q5 ω _ hk12) rfl rfl (by rw [hR9]; decide) (lw_g_mk tw_1609 rfl) (lw_g_mk tw_7 rfl) (by decide) rfl (lw_g_mk tw_1606 rfl) rfl (Nat.le_of_ble_eq_true rfl) dX6_bestStay_62 (by rw [hR9]; decide) ?_
          refine x_istore C [(8, .int q6.1), (0, .ref (B + oMd)), (1, .int p1), (2, .int p2), (3, .int p3), (4, .int p4), (5, .int a37.1), (6, .int a37.2.1), (7, .int a37.2.2.1)] dX6_bestStay_65 (by decide) rfl ?_
          refine x_iload C dX6_bestStay_67 6 rfl ?_
          have hJ13 : ∀ (x7 : Int32) (x8 : Int32) (r9 : (Int32 × Int32 × Int32 × Mem) ⊕ (Int32 × Mem)), jX6_bestStay_90 a37 q6 x7 x8 = some r9 → (∀ a2, r9 = .inl a2 → (fun (a37 : Int32 × Int32 × Int32 × Mem) => X p l e R s m args below meth c 9 cy D B 0 0 Q 37 [(0, .ref (B + oMd)), (1, .int p1), (2, .int p2), (3, .int p3), (4, .int p4), (5, .int a37.1), (6, .int a37.2.1), (7, .int a37.2.2.1)] [] σ a37.2.2.2 ω) a2) → (∀ b2, r9 = .inr b2 → (fun (b37 : Int32 × Mem) => X p l e R s m args below meth c 9 cy D B 0 0 Q 96 [(0, .ref (B + oMd)), (5, .int b37.1)] [] σ b37.2 ω) b2) → X p l e R s m args below meth c 9 cy D B 0 0 Q 90 [(0, .ref (B + oMd)), (1, .int p1), (2, .int p2), (3, .int p3), (4, .int p4), (5, .int x7), (6, .int x8), (7, .int a37.2.2.1)] [] σ q6.2 ω := by
            intro x7 x8 r h hA7 hB8
            unfold jX6_bestStay_90 at h
            refine x_iinc C (k := 7) [(7, .int (a37.2.2.1 + (1 : Int32))), (0, .ref (B + oMd)), (1, .int p1), (2, .int p2), (3, .int p3), (4, .int p4), (5, .int x7), (6, .int x8)] dX6_bestStay_90 rfl rfl (by decide) rfl ?_
            refine x_goto C (tgt := 37) dX6_bestStay_93 (by decide) ?_
            cases h
            refine x_sub [1, 2, 3, 4, 5, 6, 7, 0] rfl ?_
            exact hA7 (x7, x8, a37.2.2.1 + (1 : Int32), q6.2) rfl
          have hJ14 : ∀ (r9 : (Int32 × Int32 × Int32 × Mem) ⊕ (Int32 × Mem)), jX6_bestStay_82 a37 q6 = some r9 → (∀ a2, r9 = .inl a2 → (fun (a37 : Int32 × Int32 × Int32 × Mem) => X p l e R s m args below meth c 9 cy D B 0 0 Q 37 [(0, .ref (B + oMd)), (1, .int p1), (2, .int p2), (3, .int p3), (4, .int p4), (5, .int a37.1), (6, .int a37.2.1), (7, .int a37.2.2.1)] [] σ a37.2.2.2 ω) a2) → (∀ b2, r9 = .inr b2 → (fun (b37 : Int32 × Mem) => X p l e R s m args below meth c 9 cy D B 0 0 Q 96 [(0, .ref (B + oMd)), (5, .int b37.1)] [] σ b37.2 ω) b2) → X p l e R s m args below meth c 9 cy D B 0 0 Q 82 [(0, .ref (B + oMd)), (1, .int p1), (2, .int p2), (3, .int p3), (4, .int p4), (7, .int a37.2.2.1), (8, .int q6.1)] [] σ q6.2 ω := by
            intro r h hA7 hB8
            unfold jX6_bestStay_82 at h
            refine x_iload C dX6_bestStay_82 5 rfl ?_
            refine x_istore C [(5, .int a37.2.2.1), (0, .ref (B + oMd)), (1, .int p1), (2, .int p2), (3, .int p3), (4, .int p4), (7, .int a37.2.2.1), (8, .int q6.1)] dX6_bestStay_84 (by decide) rfl ?_
            refine x_iload C dX6_bestStay_86 7 rfl ?_
            refine x_istore C [(6, .int q6.1), (5, .int a37.2.2.1), (0, .ref (B + oMd)), (1, .int p1), (2, .int p2), (3, .int p3), (4, .int p4), (7, .int a37.2.2.1), (8, .int q6.1)] dX6_bestStay_88 (by decide) rfl ?_
            refine x_sub [2, 3, 4, 5, 6, 1, 0, 7] rfl ?_
            exact hJ13 a37.2.2.1 q6.1 _ h hA7 hB8
          refine x_if_le C (tgt := 82) dX6_bestStay_69 (by decide) (fun hc15 => ?_) (fun hc15 => ?_)
          · rw [if_pos hc15] at h
            refine x_sub [1, 2, 3, 4, 5, 8, 0] rfl ?_
            exact hJ14 _ h hA7 hB8
          · rw [if_neg hc15] at h
            refine x_iload C dX6_bestStay_72 0 rfl ?_
            refine x_iload C dX6_bestStay_74 7 rfl ?_
            refine x_icmp_gt C (tgt := 82) dX6_bestStay_76 (by decide) (fun hc16 => ?_) (fun hc16 => ?_)
            · rw [if_pos hc16] at h
              refine x_sub [1, 2, 3, 4, 5, 8, 0] rfl ?_
              exact hJ14 _ h hA7 hB8
            · rw [if_neg hc16] at h
              refine x_goto C (tgt := 90) dX6_bestStay_79 (by decide) ?_
              refine x_sub [1, 2, 3, 4, 5, 6, 7, 8] rfl ?_
              exact hJ13 a37.1 a37.2.1 _ h hA7 hB8
      · show X p l e R s m args below meth c 9 cy D B 0 0 Q 96 [(0, .ref (B + oMd)), (5, .int b37.1)] [] σ b37.2 ω
        refine x_aload_n C dX6_bestStay_96 rfl 0 rfl ?_
        refine x_iconst C (v := 0) dX6_bestStay_97 (by decide) ?_
        refine x_put C (C1 := "HostelBedsModel") (T := TX6) (N := 27) (ci := 6) inXg6 tyX6 tyX6_ok nmX6 _ (c_Md) rfl 2 (by decide) (lw_g_mk tw_1133 rfl) rfl rfl rfl rfl (Nat.le_of_ble_eq_true rfl) dX6_bestStay_98 (s_Md_at) ?_
        refine x_iload C dX6_bestStay_101 1 rfl ?_
        cases h
        exact hret _ _ dX6_bestStay_103 rfl
    · rw [if_neg hc6] at h
      refine x_sub [0] rfl ?_
      exact hJ3 _ h hret
def jX6_netWithout_42 (μ4 : Mem) : Option (Int32 × Mem) := ((fX6_netNow μ4).bind fun q5 => (some (q5.1, wI q5.2 62 0 0 (0 : Int32))))
def fX6_netWithout (p1 : Int32) (μ : Mem) : Option (Int32 × Mem) := ((fX6_isBooking p1 (wI μ 60 0 0 (0 : Int32))).bind fun q1 => (if ¬ q1 = 0 then ((fX6_beginTrial (wI μ 60 0 0 (0 : Int32))).bind fun q2 => ((fX6_of p1 (8 : Int32) q2).bind fun q3 => (if ¬ q3 = (1 : Int32) then (jX6_netWithout_42 q2) else ((fX6_lay p1 (8 : Int32) (2 : Int32) q2).bind fun q6 => (jX6_netWithout_42 q6))))) else ((fX6_fails (1 : Int32) (wI μ 60 0 0 (0 : Int32))).bind fun q7 => (some (q7.1, q7.2)))))
set_option maxHeartbeats 4000000 in
set_option maxRecDepth 100000 in
theorem okX6_netWithout (l : Launch) (cy : Nat → ClassId) (D : va_G) (B : Nat) (ek : EK) (p1 : Int32) (σ μ ω : Mem) (res : Int32 × Mem) (h : fX6_netWithout p1 μ = some res) : CT l cy D B ek yX6_netWithout cX6_netWithout 3 (some .int) ({ frames := 9, cells := 0, slots := 0, locals := 207 } : Room) [.ref (B + oMd), .int p1] σ μ ω (some (.int res.1)) σ res.2 ω := by
  refine met_X (own := "HostelBedsModel") (by decide) rfl (Nat.le_of_ble_eq_true rfl) ?_
  intro p e s m args below meth c C hrT hlk
  have hret : ∀ (pc9 : Nat) (lcs9 : List (Nat × Value)), decode cX6_netWithout pc9 = .ok (.ireturn, 1) → narrow .int (.int res.1) = .int res.1 → X p l e ({ frames := 9, cells := 0, slots := 0, locals := 207 } : Room) s m args below meth c 3 cy D B 0 0 (MQ below (QR cy D B (some (.int res.1)) σ res.2 ω) args s 0 0 (aB B)) pc9 lcs9 [.int res.1] σ res.2 ω := fun _ _ hd hn => x_zret C hrT hlk hn hd
  generalize (MQ below (QR cy D B (some (.int res.1)) σ res.2 ω) args s 0 0 (aB B)) = Q at hret ⊢
  obtain ⟨R, hR9⟩ : ∃ R : Room, R = ({ frames := 9, cells := 0, slots := 0, locals := 207 } : Room) := ⟨_, rfl⟩
  rw [← hR9] at hret ⊢
  unfold fX6_netWithout at h
  show X p l e R s m args below meth c 3 cy D B 0 0 Q 0 [(0, .ref (B + oMd)), (1, .int p1)] [] σ μ ω
  refine x_aload_n C dX6_netWithout_0 rfl 0 rfl ?_
  refine x_iconst C (v := 0) dX6_netWithout_1 (by decide) ?_
  refine x_put C (C1 := "HostelBedsModel") (T := TX6) (N := 27) (ci := 6) inXg6 tyX6 tyX6_ok nmX6 _ (c_Md) rfl 0 (by decide) (lw_g_mk tw_1131 rfl) rfl rfl rfl rfl (Nat.le_of_ble_eq_true rfl) dX6_netWithout_2 (s_Md_thrown) ?_
  refine x_aload_n C dX6_netWithout_5 rfl 0 rfl ?_
  refine x_iload_n C dX6_netWithout_6 rfl 1 rfl ?_
  obtain ⟨q1, hk1, h⟩ := Option.bind_eq_some_iff.mp h
  refine x_callV C (As := [.int p1]) (rest := []) (lw_g_mk tw_1431 rfl) (lw_g_mk tsel_59 rfl) (c_Md) (C1 := "HostelBedsModel") (T := TX6) (N := 27) (ci := 6) rfl (okX6_isBooking l cy D B ek p1 σ (wI μ 60 0 0 (0 : Int32)) ω _ hk1) rfl rfl (by rw [hR9]; decide) (lw_g_mk tw_1432 rfl) (lw_g_mk tw_7 rfl) (by decide) rfl (lw_g_mk tw_1429 rfl) rfl (Nat.le_of_ble_eq_true rfl) dX6_netWithout_7 (by rw [hR9]; decide) ?_
  refine x_if_ne C (tgt := 19) dX6_netWithout_10 (by decide) (fun hc2 => ?_) (fun hc2 => ?_)
  · rw [if_pos hc2] at h
    refine x_aload_n C dX6_netWithout_19 rfl 0 rfl ?_
    obtain ⟨q2, hk3, h⟩ := Option.bind_eq_some_iff.mp h
    refine x_callV C (As := []) (rest := []) (lw_g_mk tw_1639 rfl) (lw_g_mk tsel_84 rfl) (c_Md) (C1 := "HostelBedsModel") (T := TX6) (N := 27) (ci := 6) rfl (okX6_beginTrial l cy D B ek σ (wI μ 60 0 0 (0 : Int32)) ω _ hk3) rfl rfl (by rw [hR9]; decide) (lw_g_mk tw_1640 rfl) (lw_g_mk tw_7 rfl) (by decide) rfl (lw_g_mk tw_1637 rfl) rfl (Nat.le_of_ble_eq_true rfl) dX6_netWithout_20 (by rw [hR9]; decide) ?_
    refine x_aload_n C dX6_netWithout_23 rfl 0 rfl ?_
    refine x_iload_n C dX6_netWithout_24 rfl 1 rfl ?_
    refine x_bipush C (v := 8) dX6_netWithout_25 (by decide) ?_
    obtain ⟨q3, hk4, h⟩ := Option.bind_eq_some_iff.mp h
    refine x_callV C (As := [.int p1, .int (8 : Int32)]) (rest := []) (lw_g_mk tw_1367 rfl) (lw_g_mk tsel_48 rfl) (c_Md) (C1 := "HostelBedsModel") (T := TX6) (N := 27) (ci := 6) rfl (okX6_of l cy D B ek p1 (8 : Int32) σ q2 ω _ hk4) rfl rfl (by rw [hR9]; decide) (lw_g_mk tw_1368 rfl) (lw_g_mk tw_7 rfl) (by decide) rfl (lw_g_mk tw_1365 rfl) rfl (Nat.le_of_ble_eq_true rfl) dX6_netWithout_27 (by rw [hR9]; decide) ?_
    refine x_iconst C (v := 1) dX6_netWithout_30 (by decide) ?_
    have hJ6 : ∀ (μ4 : Mem) (r9 : Int32 × Mem), jX6_netWithout_42 μ4 = some r9 → (∀ (pc9 : Nat) (lcs9 : List (Nat × Value)), decode cX6_netWithout pc9 = .ok (.ireturn, 1) → narrow .int (.int r9.1) = .int r9.1 → X p l e R s m args below meth c 3 cy D B 0 0 Q pc9 lcs9 [.int r9.1] σ r9.2 ω) → X p l e R s m args below meth c 3 cy D B 0 0 Q 42 [(0, .ref (B + oMd))] [] σ μ4 ω := by
      intro μ4 res9 h hret
      unfold jX6_netWithout_42 at h
      refine x_aload_n C dX6_netWithout_42 rfl 0 rfl ?_
      obtain ⟨q5, hk5, h⟩ := Option.bind_eq_some_iff.mp h
      refine x_callV C (As := []) (rest := []) (lw_g_mk tw_1608 rfl) (lw_g_mk tsel_82 rfl) (c_Md) (C1 := "HostelBedsModel") (T := TX6) (N := 27) (ci := 6) rfl (okX6_netNow l cy D B ek σ μ4 ω _ hk5) rfl rfl (by rw [hR9]; decide) (lw_g_mk tw_1609 rfl) (lw_g_mk tw_7 rfl) (by decide) rfl (lw_g_mk tw_1606 rfl) rfl (Nat.le_of_ble_eq_true rfl) dX6_netWithout_43 (by rw [hR9]; decide) ?_
      refine x_istore_n C [(2, .int q5.1), (0, .ref (B + oMd))] dX6_netWithout_46 rfl (by decide) rfl ?_
      refine x_aload_n C dX6_netWithout_47 rfl 1 rfl ?_
      refine x_iconst C (v := 0) dX6_netWithout_48 (by decide) ?_
      refine x_put C (C1 := "HostelBedsModel") (T := TX6) (N := 27) (ci := 6) inXg6 tyX6 tyX6_ok nmX6 _ (c_Md) rfl 2 (by decide) (lw_g_mk tw_1133 rfl) rfl rfl rfl rfl (Nat.le_of_ble_eq_true rfl) dX6_netWithout_49 (s_Md_at) ?_
      refine x_iload_n C dX6_netWithout_52 rfl 0 rfl ?_
      cases h
      exact hret _ _ dX6_netWithout_53 rfl
    refine x_icmp_ne C (tgt := 42) dX6_netWithout_31 (by decide) (fun hc7 => ?_) (fun hc7 => ?_)
    · rw [if_pos hc7] at h
      refine x_sub [0] rfl ?_
      exact hJ6 q2 _ h hret
    · rw [if_neg hc7] at h
      refine x_aload_n C dX6_netWithout_34 rfl 0 rfl ?_
      refine x_iload_n C dX6_netWithout_35 rfl 1 rfl ?_
      refine x_bipush C (v := 8) dX6_netWithout_36 (by decide) ?_
      refine x_iconst C (v := 2) dX6_netWithout_38 (by decide) ?_
      obtain ⟨q6, hk8, h⟩ := Option.bind_eq_some_iff.mp h
      refine x_callV C (As := [.int p1, .int (8 : Int32), .int (2 : Int32)]) (rest := []) (lw_g_mk tw_1343 rfl) (lw_g_mk tsel_42 rfl) (c_Md) (C1 := "HostelBedsModel") (T := TX6) (N := 27) (ci := 6) rfl (okX6_lay l cy D B ek p1 (8 : Int32) (2 : Int32) σ q2 ω _ hk8) rfl rfl (by rw [hR9]; decide) (lw_g_mk tw_1344 rfl) (lw_g_mk tw_7 rfl) (by decide) rfl (lw_g_mk tw_1341 rfl) rfl (Nat.le_of_ble_eq_true rfl) dX6_netWithout_39 (by rw [hR9]; decide) ?_
      refine x_sub [0] rfl ?_
      exact hJ6 q6 _ h hret
  · rw [if_neg hc2] at h
    refine x_aload_n C dX6_netWithout_13 rfl 0 rfl ?_
    refine x_iconst C (v := 1) dX6_netWithout_14 (by decide) ?_
    obtain ⟨q7, hk9, h⟩ := Option.bind_eq_some_iff.mp h
    refine x_callV C (As := [.int (1 : Int32)]) (rest := []) (lw_g_mk tw_1224 rfl) (lw_g_mk tsel_18 rfl) (c_Md) (C1 := "HostelBedsModel") (T := TX6) (N := 27) (ci := 6) rfl (okX6_fails l cy D B ek (1 : Int32) σ (wI μ 60 0 0 (0 : Int32)) ω _ hk9) rfl rfl (by rw [hR9]; decide) (lw_g_mk tw_1225 rfl) (lw_g_mk tw_7 rfl) (by decide) rfl (lw_g_mk tw_1222 rfl) rfl (Nat.le_of_ble_eq_true rfl) dX6_netWithout_15 (by rw [hR9]; decide) ?_
    cases h
    exact hret _ _ dX6_netWithout_18 rfl
def jX6_comeAnew_39 (a10 : Int32 × Mem) (μ4 : Mem) : Option ((Int32 × Mem) ⊕ (Mem)) := (some (.inl (a10.1 + (1 : Int32), μ4)))
def stX6_comeAnew_10 (a10 : Int32 × Mem) : Option ((Int32 × Mem) ⊕ (Mem)) := ((fX6_get (37 : Int32) a10.2).bind fun q2 => (if q2 ≤ a10.1 then (some (.inr a10.2)) else ((fX6_of a10.1 (8 : Int32) a10.2).bind fun q3 => (if q3 = (2 : Int32) then (jX6_comeAnew_39 a10 a10.2) else ((fX6_lay a10.1 (8 : Int32) (0 : Int32) a10.2).bind fun q5 => (jX6_comeAnew_39 a10 q5))))))
def jX6_comeAnew_73 (a47 : Int32 × Mem) (μ8 : Mem) : Option ((Int32 × Mem) ⊕ (Mem)) := (some (.inl (a47.1 + (1 : Int32), μ8)))
def stX6_comeAnew_47 (a47 : Int32 × Mem) : Option ((Int32 × Mem) ⊕ (Mem)) := ((fX6_get (37 : Int32) a47.2).bind fun q6 => (if q6 ≤ a47.1 then (some (.inr a47.2)) else ((fX6_of a47.1 (8 : Int32) a47.2).bind fun q7 => (if q7 = (2 : Int32) then (jX6_comeAnew_73 a47 a47.2) else ((fX6_comes a47.1 a47.2).bind fun q9 => (jX6_comeAnew_73 a47 q9))))))
def fX6_comeAnew (μ : Mem) : Option (Mem) := ((fX6_set (191 : Int32) (0 : Int32) μ).bind fun q1 => ((loop (stX6_comeAnew_10) 5000 ((0 : Int32), q1)).bind fun b10 => ((loop (stX6_comeAnew_47) 5000 ((0 : Int32), b10)).bind fun b47 => (some b47))))
set_option maxHeartbeats 4000000 in
set_option maxRecDepth 100000 in
theorem okX6_comeAnew (l : Launch) (cy : Nat → ClassId) (D : va_G) (B : Nat) (ek : EK) (σ μ ω : Mem) (res : Mem) (h : fX6_comeAnew μ = some res) : CT l cy D B ek yX6_comeAnew cX6_comeAnew 2 none ({ frames := 6, cells := 0, slots := 0, locals := 132 } : Room) [.ref (B + oMd)] σ μ ω none σ res ω := by
  refine met_X (own := "HostelBedsModel") (by decide) rfl (Nat.le_of_ble_eq_true rfl) ?_
  intro p e s m args below meth c C hrT hlk
  have hret : ∀ (pc9 : Nat) (lcs9 : List (Nat × Value)), decode cX6_comeAnew pc9 = .ok (.return_, 1) → X p l e ({ frames := 6, cells := 0, slots := 0, locals := 132 } : Room) s m args below meth c 2 cy D B 0 0 (MQ below (QR cy D B none σ res ω) args s 0 0 (aB B)) pc9 lcs9 [] σ res ω := fun _ _ hd => x_vret C hrT hlk hd
  generalize (MQ below (QR cy D B none σ res ω) args s 0 0 (aB B)) = Q at hret ⊢
  obtain ⟨R, hR9⟩ : ∃ R : Room, R = ({ frames := 6, cells := 0, slots := 0, locals := 132 } : Room) := ⟨_, rfl⟩
  rw [← hR9] at hret ⊢
  unfold fX6_comeAnew at h
  show X p l e R s m args below meth c 2 cy D B 0 0 Q 0 [(0, .ref (B + oMd))] [] σ μ ω
  refine x_aload_n C dX6_comeAnew_0 rfl 0 rfl ?_
  refine x_sipush C (v := 191) dX6_comeAnew_1 (by decide) ?_
  refine x_iconst C (v := 0) dX6_comeAnew_4 (by decide) ?_
  obtain ⟨q1, hk1, h⟩ := Option.bind_eq_some_iff.mp h
  refine x_callV C (As := [.int (191 : Int32), .int (0 : Int32)]) (rest := []) (lw_g_mk tw_1323 rfl) (lw_g_mk tsel_37 rfl) (c_Md) (C1 := "HostelBedsModel") (T := TX6) (N := 27) (ci := 6) rfl (okX6_set l cy D B ek (191 : Int32) (0 : Int32) σ μ ω _ hk1) rfl rfl (by rw [hR9]; decide) (lw_g_mk tw_1324 rfl) (lw_g_mk tw_7 rfl) (by decide) rfl (lw_g_mk tw_1321 rfl) rfl (Nat.le_of_ble_eq_true rfl) dX6_comeAnew_5 (by rw [hR9]; decide) ?_
  refine x_iconst C (v := 0) dX6_comeAnew_8 (by decide) ?_
  refine x_istore_n C [(1, .int (0 : Int32)), (0, .ref (B + oMd))] dX6_comeAnew_9 rfl (by decide) rfl ?_
  obtain ⟨b10, hk10, h⟩ := Option.bind_eq_some_iff.mp h
  refine x_sub [1, 0] rfl ?_
  refine loop_run (step := stX6_comeAnew_10) (P := fun (a10 : Int32 × Mem) => X p l e R s m args below meth c 2 cy D B 0 0 Q 10 [(0, .ref (B + oMd)), (1, .int a10.1)] [] σ a10.2 ω) (K := fun (b10 : Mem) => X p l e R s m args below meth c 2 cy D B 0 0 Q 45 [(0, .ref (B + oMd))] [] σ b10 ω) ?_ 5000 ((0 : Int32), q1) b10 hk10 ?_
  · intro a10 r h hA2 hB3
    unfold stX6_comeAnew_10 at h
    refine x_iload_n C dX6_comeAnew_10 rfl 1 rfl ?_
    refine x_aload_n C dX6_comeAnew_11 rfl 0 rfl ?_
    refine x_bipush C (v := 37) dX6_comeAnew_12 (by decide) ?_
    obtain ⟨q2, hk4, h⟩ := Option.bind_eq_some_iff.mp h
    refine x_callV C (As := [.int (37 : Int32)]) (rest := [.int a10.1]) (lw_g_mk tw_1296 rfl) (lw_g_mk tsel_31 rfl) (c_Md) (C1 := "HostelBedsModel") (T := TX6) (N := 27) (ci := 6) rfl (okX6_get l cy D B ek (37 : Int32) σ a10.2 ω _ hk4) rfl rfl (by rw [hR9]; decide) (lw_g_mk tw_1297 rfl) (lw_g_mk tw_7 rfl) (by decide) rfl (lw_g_mk tw_1294 rfl) rfl (Nat.le_of_ble_eq_true rfl) dX6_comeAnew_14 (by rw [hR9]; decide) ?_
    refine x_icmp_ge C (tgt := 45) dX6_comeAnew_17 (by decide) (fun hc5 => ?_) (fun hc5 => ?_)
    · rw [if_pos hc5] at h
      cases h
      refine x_sub [0] rfl ?_
      exact hB3 a10.2 rfl
    · rw [if_neg hc5] at h
      refine x_aload_n C dX6_comeAnew_20 rfl 0 rfl ?_
      refine x_iload_n C dX6_comeAnew_21 rfl 1 rfl ?_
      refine x_bipush C (v := 8) dX6_comeAnew_22 (by decide) ?_
      obtain ⟨q3, hk6, h⟩ := Option.bind_eq_some_iff.mp h
      refine x_callV C (As := [.int a10.1, .int (8 : Int32)]) (rest := []) (lw_g_mk tw_1367 rfl) (lw_g_mk tsel_48 rfl) (c_Md) (C1 := "HostelBedsModel") (T := TX6) (N := 27) (ci := 6) rfl (okX6_of l cy D B ek a10.1 (8 : Int32) σ a10.2 ω _ hk6) rfl rfl (by rw [hR9]; decide) (lw_g_mk tw_1368 rfl) (lw_g_mk tw_7 rfl) (by decide) rfl (lw_g_mk tw_1365 rfl) rfl (Nat.le_of_ble_eq_true rfl) dX6_comeAnew_24 (by rw [hR9]; decide) ?_
      refine x_iconst C (v := 2) dX6_comeAnew_27 (by decide) ?_
      have hJ7 : ∀ (μ4 : Mem) (r9 : (Int32 × Mem) ⊕ (Mem)), jX6_comeAnew_39 a10 μ4 = some r9 → (∀ a2, r9 = .inl a2 → (fun (a10 : Int32 × Mem) => X p l e R s m args below meth c 2 cy D B 0 0 Q 10 [(0, .ref (B + oMd)), (1, .int a10.1)] [] σ a10.2 ω) a2) → (∀ b2, r9 = .inr b2 → (fun (b10 : Mem) => X p l e R s m args below meth c 2 cy D B 0 0 Q 45 [(0, .ref (B + oMd))] [] σ b10 ω) b2) → X p l e R s m args below meth c 2 cy D B 0 0 Q 39 [(0, .ref (B + oMd)), (1, .int a10.1)] [] σ μ4 ω := by
        intro μ4 r h hA2 hB3
        unfold jX6_comeAnew_39 at h
        refine x_iinc C (k := 1) [(1, .int (a10.1 + (1 : Int32))), (0, .ref (B + oMd))] dX6_comeAnew_39 rfl rfl (by decide) rfl ?_
        refine x_goto C (tgt := 10) dX6_comeAnew_42 (by decide) ?_
        cases h
        refine x_sub [1, 0] rfl ?_
        exact hA2 (a10.1 + (1 : Int32), μ4) rfl
      refine x_icmp_eq C (tgt := 39) dX6_comeAnew_28 (by decide) (fun hc8 => ?_) (fun hc8 => ?_)
      · rw [if_pos hc8] at h
        exact hJ7 a10.2 _ h hA2 hB3
      · rw [if_neg hc8] at h
        refine x_aload_n C dX6_comeAnew_31 rfl 0 rfl ?_
        refine x_iload_n C dX6_comeAnew_32 rfl 1 rfl ?_
        refine x_bipush C (v := 8) dX6_comeAnew_33 (by decide) ?_
        refine x_iconst C (v := 0) dX6_comeAnew_35 (by decide) ?_
        obtain ⟨q5, hk9, h⟩ := Option.bind_eq_some_iff.mp h
        refine x_callV C (As := [.int a10.1, .int (8 : Int32), .int (0 : Int32)]) (rest := []) (lw_g_mk tw_1343 rfl) (lw_g_mk tsel_42 rfl) (c_Md) (C1 := "HostelBedsModel") (T := TX6) (N := 27) (ci := 6) rfl (okX6_lay l cy D B ek a10.1 (8 : Int32) (0 : Int32) σ a10.2 ω _ hk9) rfl rfl (by rw [hR9]; decide) (lw_g_mk tw_1344 rfl) (lw_g_mk tw_7 rfl) (by decide) rfl (lw_g_mk tw_1341 rfl) rfl (Nat.le_of_ble_eq_true rfl) dX6_comeAnew_36 (by rw [hR9]; decide) ?_
        exact hJ7 q5 _ h hA2 hB3
  · show X p l e R s m args below meth c 2 cy D B 0 0 Q 45 [(0, .ref (B + oMd))] [] σ b10 ω
    refine x_iconst C (v := 0) dX6_comeAnew_45 (by decide) ?_
    refine x_istore_n C [(1, .int (0 : Int32)), (0, .ref (B + oMd))] dX6_comeAnew_46 rfl (by decide) rfl ?_
    obtain ⟨b47, hk19, h⟩ := Option.bind_eq_some_iff.mp h
    refine x_sub [1, 0] rfl ?_
    refine loop_run (step := stX6_comeAnew_47) (P := fun (a47 : Int32 × Mem) => X p l e R s m args below meth c 2 cy D B 0 0 Q 47 [(0, .ref (B + oMd)), (1, .int a47.1)] [] σ a47.2 ω) (K := fun (b47 : Mem) => X p l e R s m args below meth c 2 cy D B 0 0 Q 79 [] [] σ b47 ω) ?_ 5000 ((0 : Int32), b10) b47 hk19 ?_
    · intro a47 r h hA11 hB12
      unfold stX6_comeAnew_47 at h
      refine x_iload_n C dX6_comeAnew_47 rfl 1 rfl ?_
      refine x_aload_n C dX6_comeAnew_48 rfl 0 rfl ?_
      refine x_bipush C (v := 37) dX6_comeAnew_49 (by decide) ?_
      obtain ⟨q6, hk13, h⟩ := Option.bind_eq_some_iff.mp h
      refine x_callV C (As := [.int (37 : Int32)]) (rest := [.int a47.1]) (lw_g_mk tw_1296 rfl) (lw_g_mk tsel_31 rfl) (c_Md) (C1 := "HostelBedsModel") (T := TX6) (N := 27) (ci := 6) rfl (okX6_get l cy D B ek (37 : Int32) σ a47.2 ω _ hk13) rfl rfl (by rw [hR9]; decide) (lw_g_mk tw_1297 rfl) (lw_g_mk tw_7 rfl) (by decide) rfl (lw_g_mk tw_1294 rfl) rfl (Nat.le_of_ble_eq_true rfl) dX6_comeAnew_51 (by rw [hR9]; decide) ?_
      refine x_icmp_ge C (tgt := 79) dX6_comeAnew_54 (by decide) (fun hc14 => ?_) (fun hc14 => ?_)
      · rw [if_pos hc14] at h
        cases h
        refine x_sub [] rfl ?_
        exact hB12 a47.2 rfl
      · rw [if_neg hc14] at h
        refine x_aload_n C dX6_comeAnew_57 rfl 0 rfl ?_
        refine x_iload_n C dX6_comeAnew_58 rfl 1 rfl ?_
        refine x_bipush C (v := 8) dX6_comeAnew_59 (by decide) ?_
        obtain ⟨q7, hk15, h⟩ := Option.bind_eq_some_iff.mp h
        refine x_callV C (As := [.int a47.1, .int (8 : Int32)]) (rest := []) (lw_g_mk tw_1367 rfl) (lw_g_mk tsel_48 rfl) (c_Md) (C1 := "HostelBedsModel") (T := TX6) (N := 27) (ci := 6) rfl (okX6_of l cy D B ek a47.1 (8 : Int32) σ a47.2 ω _ hk15) rfl rfl (by rw [hR9]; decide) (lw_g_mk tw_1368 rfl) (lw_g_mk tw_7 rfl) (by decide) rfl (lw_g_mk tw_1365 rfl) rfl (Nat.le_of_ble_eq_true rfl) dX6_comeAnew_61 (by rw [hR9]; decide) ?_
        refine x_iconst C (v := 2) dX6_comeAnew_64 (by decide) ?_
        have hJ16 : ∀ (μ8 : Mem) (r9 : (Int32 × Mem) ⊕ (Mem)), jX6_comeAnew_73 a47 μ8 = some r9 → (∀ a2, r9 = .inl a2 → (fun (a47 : Int32 × Mem) => X p l e R s m args below meth c 2 cy D B 0 0 Q 47 [(0, .ref (B + oMd)), (1, .int a47.1)] [] σ a47.2 ω) a2) → (∀ b2, r9 = .inr b2 → (fun (b47 : Mem) => X p l e R s m args below meth c 2 cy D B 0 0 Q 79 [] [] σ b47 ω) b2) → X p l e R s m args below meth c 2 cy D B 0 0 Q 73 [(0, .ref (B + oMd)), (1, .int a47.1)] [] σ μ8 ω := by
          intro μ8 r h hA11 hB12
          unfold jX6_comeAnew_73 at h
          refine x_iinc C (k := 1) [(1, .int (a47.1 + (1 : Int32))), (0, .ref (B + oMd))] dX6_comeAnew_73 rfl rfl (by decide) rfl ?_
          refine x_goto C (tgt := 47) dX6_comeAnew_76 (by decide) ?_
          cases h
          refine x_sub [1, 0] rfl ?_
          exact hA11 (a47.1 + (1 : Int32), μ8) rfl
        refine x_icmp_eq C (tgt := 73) dX6_comeAnew_65 (by decide) (fun hc17 => ?_) (fun hc17 => ?_)
        · rw [if_pos hc17] at h
          exact hJ16 a47.2 _ h hA11 hB12
        · rw [if_neg hc17] at h
          refine x_aload_n C dX6_comeAnew_68 rfl 0 rfl ?_
          refine x_iload_n C dX6_comeAnew_69 rfl 1 rfl ?_
          obtain ⟨q9, hk18, h⟩ := Option.bind_eq_some_iff.mp h
          refine x_callV C (As := [.int a47.1]) (rest := []) (lw_g_mk tw_1347 rfl) (lw_g_mk tsel_43 rfl) (c_Md) (C1 := "HostelBedsModel") (T := TX6) (N := 27) (ci := 6) rfl (okX6_comes l cy D B ek a47.1 σ a47.2 ω _ hk18) rfl rfl (by rw [hR9]; decide) (lw_g_mk tw_1348 rfl) (lw_g_mk tw_7 rfl) (by decide) rfl (lw_g_mk tw_1345 rfl) rfl (Nat.le_of_ble_eq_true rfl) dX6_comeAnew_70 (by rw [hR9]; decide) ?_
          exact hJ16 q9 _ h hA11 hB12
    · show X p l e R s m args below meth c 2 cy D B 0 0 Q 79 [] [] σ b47 ω
      cases h
      exact hret _ _ dX6_comeAnew_79
def jX6_bestOver_56 (a11 : Int32 × Int32 × Int32 × Mem) (q4 : Int32 × Mem) (x5 : Int32) (x6 : Int32) : Option ((Int32 × Int32 × Int32 × Mem) ⊕ (Int32 × Mem)) := (some (.inl (x5, x6, a11.2.2.1 + (1 : Int32), q4.2)))
def jX6_bestOver_51 (a11 : Int32 × Int32 × Int32 × Mem) (q4 : Int32 × Mem) : Option ((Int32 × Int32 × Int32 × Mem) ⊕ (Int32 × Mem)) := (jX6_bestOver_56 a11 q4 a11.2.2.1 q4.1)
def stX6_bestOver_11 (a11 : Int32 × Int32 × Int32 × Mem) : Option ((Int32 × Int32 × Int32 × Mem) ⊕ (Int32 × Mem)) := (if (50 : Int32) < a11.2.2.1 then (some (.inr (a11.1, a11.2.2.2))) else ((fX6_beginTrial a11.2.2.2).bind fun q1 => ((fX6_set (0 : Int32) a11.2.2.1 q1).bind fun q2 => ((fX6_comeAnew q2).bind fun q3 => ((fX6_netNow q3).bind fun q4 => (if a11.1 = (-1 : Int32) then (jX6_bestOver_51 a11 q4) else (if a11.2.1 < q4.1 then (jX6_bestOver_51 a11 q4) else (jX6_bestOver_56 a11 q4 a11.1 a11.2.1))))))))
def fX6_bestOver (μ : Mem) : Option (Int32 × Mem) := ((loop (stX6_bestOver_11) 5000 ((-1 : Int32), (0 : Int32), (0 : Int32), wI μ 60 0 0 (0 : Int32))).bind fun b11 => (some (b11.1, wI b11.2 62 0 0 (0 : Int32))))
set_option maxHeartbeats 4000000 in
set_option maxRecDepth 100000 in
theorem okX6_bestOver (l : Launch) (cy : Nat → ClassId) (D : va_G) (B : Nat) (ek : EK) (σ μ ω : Mem) (res : Int32 × Mem) (h : fX6_bestOver μ = some res) : CT l cy D B ek yX6_bestOver cX6_bestOver 5 (some .int) ({ frames := 9, cells := 0, slots := 0, locals := 207 } : Room) [.ref (B + oMd)] σ μ ω (some (.int res.1)) σ res.2 ω := by
  refine met_X (own := "HostelBedsModel") (by decide) rfl (Nat.le_of_ble_eq_true rfl) ?_
  intro p e s m args below meth c C hrT hlk
  have hret : ∀ (pc9 : Nat) (lcs9 : List (Nat × Value)), decode cX6_bestOver pc9 = .ok (.ireturn, 1) → narrow .int (.int res.1) = .int res.1 → X p l e ({ frames := 9, cells := 0, slots := 0, locals := 207 } : Room) s m args below meth c 5 cy D B 0 0 (MQ below (QR cy D B (some (.int res.1)) σ res.2 ω) args s 0 0 (aB B)) pc9 lcs9 [.int res.1] σ res.2 ω := fun _ _ hd hn => x_zret C hrT hlk hn hd
  generalize (MQ below (QR cy D B (some (.int res.1)) σ res.2 ω) args s 0 0 (aB B)) = Q at hret ⊢
  obtain ⟨R, hR9⟩ : ∃ R : Room, R = ({ frames := 9, cells := 0, slots := 0, locals := 207 } : Room) := ⟨_, rfl⟩
  rw [← hR9] at hret ⊢
  unfold fX6_bestOver at h
  show X p l e R s m args below meth c 5 cy D B 0 0 Q 0 [(0, .ref (B + oMd))] [] σ μ ω
  refine x_aload_n C dX6_bestOver_0 rfl 0 rfl ?_
  refine x_iconst C (v := 0) dX6_bestOver_1 (by decide) ?_
  refine x_put C (C1 := "HostelBedsModel") (T := TX6) (N := 27) (ci := 6) inXg6 tyX6 tyX6_ok nmX6 _ (c_Md) rfl 0 (by decide) (lw_g_mk tw_1131 rfl) rfl rfl rfl rfl (Nat.le_of_ble_eq_true rfl) dX6_bestOver_2 (s_Md_thrown) ?_
  refine x_iconst C (v := -1) dX6_bestOver_5 (by decide) ?_
  refine x_istore_n C [(1, .int (-1 : Int32)), (0, .ref (B + oMd))] dX6_bestOver_6 rfl (by decide) rfl ?_
  refine x_iconst C (v := 0) dX6_bestOver_7 (by decide) ?_
  refine x_istore_n C [(2, .int (0 : Int32)), (1, .int (-1 : Int32)), (0, .ref (B + oMd))] dX6_bestOver_8 rfl (by decide) rfl ?_
  refine x_iconst C (v := 0) dX6_bestOver_9 (by decide) ?_
  refine x_istore_n C [(3, .int (0 : Int32)), (2, .int (0 : Int32)), (1, .int (-1 : Int32)), (0, .ref (B + oMd))] dX6_bestOver_10 rfl (by decide) rfl ?_
  obtain ⟨b11, hk12, h⟩ := Option.bind_eq_some_iff.mp h
  refine x_sub [3, 2, 1, 0] rfl ?_
  refine loop_run (step := stX6_bestOver_11) (P := fun (a11 : Int32 × Int32 × Int32 × Mem) => X p l e R s m args below meth c 5 cy D B 0 0 Q 11 [(0, .ref (B + oMd)), (1, .int a11.1), (2, .int a11.2.1), (3, .int a11.2.2.1)] [] σ a11.2.2.2 ω) (K := fun (b11 : Int32 × Mem) => X p l e R s m args below meth c 5 cy D B 0 0 Q 62 [(0, .ref (B + oMd)), (1, .int b11.1)] [] σ b11.2 ω) ?_ 5000 ((-1 : Int32), (0 : Int32), (0 : Int32), wI μ 60 0 0 (0 : Int32)) b11 hk12 ?_
  · intro a11 r h hA1 hB2
    unfold stX6_bestOver_11 at h
    refine x_iload_n C dX6_bestOver_11 rfl 3 rfl ?_
    refine x_bipush C (v := 50) dX6_bestOver_12 (by decide) ?_
    refine x_icmp_gt C (tgt := 62) dX6_bestOver_14 (by decide) (fun hc3 => ?_) (fun hc3 => ?_)
    · rw [if_pos hc3] at h
      cases h
      refine x_sub [0, 1] rfl ?_
      exact hB2 (a11.1, a11.2.2.2) rfl
    · rw [if_neg hc3] at h
      refine x_aload_n C dX6_bestOver_17 rfl 0 rfl ?_
      obtain ⟨q1, hk4, h⟩ := Option.bind_eq_some_iff.mp h
      refine x_callV C (As := []) (rest := []) (lw_g_mk tw_1639 rfl) (lw_g_mk tsel_84 rfl) (c_Md) (C1 := "HostelBedsModel") (T := TX6) (N := 27) (ci := 6) rfl (okX6_beginTrial l cy D B ek σ a11.2.2.2 ω _ hk4) rfl rfl (by rw [hR9]; decide) (lw_g_mk tw_1640 rfl) (lw_g_mk tw_7 rfl) (by decide) rfl (lw_g_mk tw_1637 rfl) rfl (Nat.le_of_ble_eq_true rfl) dX6_bestOver_18 (by rw [hR9]; decide) ?_
      refine x_aload_n C dX6_bestOver_21 rfl 0 rfl ?_
      refine x_iconst C (v := 0) dX6_bestOver_22 (by decide) ?_
      refine x_iload_n C dX6_bestOver_23 rfl 3 rfl ?_
      obtain ⟨q2, hk5, h⟩ := Option.bind_eq_some_iff.mp h
      refine x_callV C (As := [.int (0 : Int32), .int a11.2.2.1]) (rest := []) (lw_g_mk tw_1323 rfl) (lw_g_mk tsel_37 rfl) (c_Md) (C1 := "HostelBedsModel") (T := TX6) (N := 27) (ci := 6) rfl (okX6_set l cy D B ek (0 : Int32) a11.2.2.1 σ q1 ω _ hk5) rfl rfl (by rw [hR9]; decide) (lw_g_mk tw_1324 rfl) (lw_g_mk tw_7 rfl) (by decide) rfl (lw_g_mk tw_1321 rfl) rfl (Nat.le_of_ble_eq_true rfl) dX6_bestOver_24 (by rw [hR9]; decide) ?_
      refine x_aload_n C dX6_bestOver_27 rfl 0 rfl ?_
      obtain ⟨q3, hk6, h⟩ := Option.bind_eq_some_iff.mp h
      refine x_callV C (As := []) (rest := []) (lw_g_mk tw_1659 rfl) (lw_g_mk tsel_86 rfl) (c_Md) (C1 := "HostelBedsModel") (T := TX6) (N := 27) (ci := 6) rfl (okX6_comeAnew l cy D B ek σ q2 ω _ hk6) rfl rfl (by rw [hR9]; decide) (lw_g_mk tw_1660 rfl) (lw_g_mk tw_7 rfl) (by decide) rfl (lw_g_mk tw_1657 rfl) rfl (Nat.le_of_ble_eq_true rfl) dX6_bestOver_28 (by rw [hR9]; decide) ?_
      refine x_aload_n C dX6_bestOver_31 rfl 0 rfl ?_
      obtain ⟨q4, hk7, h⟩ := Option.bind_eq_some_iff.mp h
      refine x_callV C (As := []) (rest := []) (lw_g_mk tw_1608 rfl) (lw_g_mk tsel_82 rfl) (c_Md) (C1 := "HostelBedsModel") (T := TX6) (N := 27) (ci := 6) rfl (okX6_netNow l cy D B ek σ q3 ω _ hk7) rfl rfl (by rw [hR9]; decide) (lw_g_mk tw_1609 rfl) (lw_g_mk tw_7 rfl) (by decide) rfl (lw_g_mk tw_1606 rfl) rfl (Nat.le_of_ble_eq_true rfl) dX6_bestOver_32 (by rw [hR9]; decide) ?_
      refine x_istore C [(4, .int q4.1), (0, .ref (B + oMd)), (1, .int a11.1), (2, .int a11.2.1), (3, .int a11.2.2.1)] dX6_bestOver_35 (by decide) rfl ?_
      refine x_iload_n C dX6_bestOver_37 rfl 2 rfl ?_
      refine x_iconst C (v := -1) dX6_bestOver_38 (by decide) ?_
      have hJ8 : ∀ (x5 : Int32) (x6 : Int32) (r9 : (Int32 × Int32 × Int32 × Mem) ⊕ (Int32 × Mem)), jX6_bestOver_56 a11 q4 x5 x6 = some r9 → (∀ a2, r9 = .inl a2 → (fun (a11 : Int32 × Int32 × Int32 × Mem) => X p l e R s m args below meth c 5 cy D B 0 0 Q 11 [(0, .ref (B + oMd)), (1, .int a11.1), (2, .int a11.2.1), (3, .int a11.2.2.1)] [] σ a11.2.2.2 ω) a2) → (∀ b2, r9 = .inr b2 → (fun (b11 : Int32 × Mem) => X p l e R s m args below meth c 5 cy D B 0 0 Q 62 [(0, .ref (B + oMd)), (1, .int b11.1)] [] σ b11.2 ω) b2) → X p l e R s m args below meth c 5 cy D B 0 0 Q 56 [(0, .ref (B + oMd)), (1, .int x5), (2, .int x6), (3, .int a11.2.2.1)] [] σ q4.2 ω := by
        intro x5 x6 r h hA1 hB2
        unfold jX6_bestOver_56 at h
        refine x_iinc C (k := 3) [(3, .int (a11.2.2.1 + (1 : Int32))), (0, .ref (B + oMd)), (1, .int x5), (2, .int x6)] dX6_bestOver_56 rfl rfl (by decide) rfl ?_
        refine x_goto C (tgt := 11) dX6_bestOver_59 (by decide) ?_
        cases h
        refine x_sub [1, 2, 3, 0] rfl ?_
        exact hA1 (x5, x6, a11.2.2.1 + (1 : Int32), q4.2) rfl
      have hJ9 : ∀ (r9 : (Int32 × Int32 × Int32 × Mem) ⊕ (Int32 × Mem)), jX6_bestOver_51 a11 q4 = some r9 → (∀ a2, r9 = .inl a2 → (fun (a11 : Int32 × Int32 × Int32 × Mem) => X p l e R s m args below meth c 5 cy D B 0 0 Q 11 [(0, .ref (B + oMd)), (1, .int a11.1), (2, .int a11.2.1), (3, .int a11.2.2.1)] [] σ a11.2.2.2 ω) a2) → (∀ b2, r9 = .inr b2 → (fun (b11 : Int32 × Mem) => X p l e R s m args below meth c 5 cy D B 0 0 Q 62 [(0, .ref (B + oMd)), (1, .int b11.1)] [] σ b11.2 ω) b2) → X p l e R s m args below meth c 5 cy D B 0 0 Q 51 [(0, .ref (B + oMd)), (3, .int a11.2.2.1), (4, .int q4.1)] [] σ q4.2 ω := by
        intro r h hA1 hB2
        unfold jX6_bestOver_51 at h
        refine x_iload_n C dX6_bestOver_51 rfl 1 rfl ?_
        refine x_istore_n C [(1, .int a11.2.2.1), (0, .ref (B + oMd)), (3, .int a11.2.2.1), (4, .int q4.1)] dX6_bestOver_52 rfl (by decide) rfl ?_
        refine x_iload C dX6_bestOver_53 3 rfl ?_
        refine x_istore_n C [(2, .int q4.1), (1, .int a11.2.2.1), (0, .ref (B + oMd)), (3, .int a11.2.2.1), (4, .int q4.1)] dX6_bestOver_55 rfl (by decide) rfl ?_
        refine x_sub [2, 1, 0, 3] rfl ?_
        exact hJ8 a11.2.2.1 q4.1 _ h hA1 hB2
      refine x_icmp_eq C (tgt := 51) dX6_bestOver_39 (by decide) (fun hc10 => ?_) (fun hc10 => ?_)
      · rw [if_pos hc10] at h
        refine x_sub [1, 4, 0] rfl ?_
        exact hJ9 _ h hA1 hB2
      · rw [if_neg hc10] at h
        refine x_iload C dX6_bestOver_42 0 rfl ?_
        refine x_iload_n C dX6_bestOver_44 rfl 3 rfl ?_
        refine x_icmp_gt C (tgt := 51) dX6_bestOver_45 (by decide) (fun hc11 => ?_) (fun hc11 => ?_)
        · rw [if_pos hc11] at h
          refine x_sub [1, 4, 0] rfl ?_
          exact hJ9 _ h hA1 hB2
        · rw [if_neg hc11] at h
          refine x_goto C (tgt := 56) dX6_bestOver_48 (by decide) ?_
          refine x_sub [1, 2, 3, 4] rfl ?_
          exact hJ8 a11.1 a11.2.1 _ h hA1 hB2
  · show X p l e R s m args below meth c 5 cy D B 0 0 Q 62 [(0, .ref (B + oMd)), (1, .int b11.1)] [] σ b11.2 ω
    refine x_aload_n C dX6_bestOver_62 rfl 0 rfl ?_
    refine x_iconst C (v := 0) dX6_bestOver_63 (by decide) ?_
    refine x_put C (C1 := "HostelBedsModel") (T := TX6) (N := 27) (ci := 6) inXg6 tyX6 tyX6_ok nmX6 _ (c_Md) rfl 2 (by decide) (lw_g_mk tw_1133 rfl) rfl rfl rfl rfl (Nat.le_of_ble_eq_true rfl) dX6_bestOver_64 (s_Md_at) ?_
    refine x_iload_n C dX6_bestOver_67 rfl 1 rfl ?_
    cases h
    exact hret _ _ dX6_bestOver_68 rfl
def fX6_slot (p1 : Int32) (μ : Mem) : Option (Int32) := (some ((2 : Int32) + (((rI μ 64 0 0) + p1) - ((rI μ 64 0 0) + p1) / (10 : Int32) * (10 : Int32))))
set_option maxHeartbeats 4000000 in
set_option maxRecDepth 100000 in
theorem okX6_slot (l : Launch) (cy : Nat → ClassId) (D : va_G) (B : Nat) (ek : EK) (p1 : Int32) (σ μ ω : Mem) (res : Int32) (h : fX6_slot p1 μ = some res) : CT l cy D B ek yX6_slot cX6_slot 2 (some .int) ({ frames := 0, cells := 0, slots := 0, locals := 0 } : Room) [.ref (B + oMd), .int p1] σ μ ω (some (.int res)) σ μ ω := by
  refine met_X (own := "HostelBedsModel") (by decide) rfl (Nat.le_of_ble_eq_true rfl) ?_
  intro p e s m args below meth c C hrT hlk
  have hret : ∀ (pc9 : Nat) (lcs9 : List (Nat × Value)), decode cX6_slot pc9 = .ok (.ireturn, 1) → narrow .int (.int res) = .int res → X p l e ({ frames := 0, cells := 0, slots := 0, locals := 0 } : Room) s m args below meth c 2 cy D B 0 0 (MQ below (QR cy D B (some (.int res)) σ μ ω) args s 0 0 (aB B)) pc9 lcs9 [.int res] σ μ ω := fun _ _ hd hn => x_zret C hrT hlk hn hd
  generalize (MQ below (QR cy D B (some (.int res)) σ μ ω) args s 0 0 (aB B)) = Q at hret ⊢
  obtain ⟨R, hR9⟩ : ∃ R : Room, R = ({ frames := 0, cells := 0, slots := 0, locals := 0 } : Room) := ⟨_, rfl⟩
  rw [← hR9] at hret ⊢
  unfold fX6_slot at h
  show X p l e R s m args below meth c 2 cy D B 0 0 Q 0 [(0, .ref (B + oMd)), (1, .int p1)] [] σ μ ω
  refine x_iconst C (v := 2) dX6_slot_0 (by decide) ?_
  refine x_aload_n C dX6_slot_1 rfl 0 rfl ?_
  refine x_get C (C1 := "HostelBedsModel") (T := TX6) (N := 27) (ci := 6) inXg6 _ (c_Md) rfl 4 (by decide) (lw_g_mk tw_1135 rfl) rfl dX6_slot_2 ?_
  refine x_iload_n C dX6_slot_5 rfl 1 rfl ?_
  refine x_iadd C dX6_slot_6 ?_
  refine x_bipush C (v := 10) dX6_slot_7 (by decide) ?_
  refine x_irem C dX6_slot_9 (by decide) ?_
  refine x_iadd C dX6_slot_10 ?_
  cases h
  exact hret _ _ dX6_slot_11 rfl
