def fX6_booking (p1 : Int32) (p2 : Int32) (μ : Mem) : Option (Int32 × Mem) := ((fX6_isBooking p1 (wI μ 60 0 0 (0 : Int32))).bind fun q1 => (if ¬ q1 = 0 then ((fX6_isIn p2 (0 : Int32) (7 : Int32)).bind fun q2 => (if q2 = 0 then ((fX6_fails (2 : Int32) (wI μ 60 0 0 (0 : Int32))).bind fun q3 => (some (q3.1, q3.2))) else ((fX6_of p1 p2 (wI μ 60 0 0 (0 : Int32))).bind fun q4 => (some (q4, wI μ 60 0 0 (0 : Int32)))))) else ((fX6_fails (1 : Int32) (wI μ 60 0 0 (0 : Int32))).bind fun q5 => (some (q5.1, q5.2)))))
set_option maxHeartbeats 4000000 in
set_option maxRecDepth 100000 in
theorem okX6_booking (l : Launch) (cy : Nat → ClassId) (D : va_G) (B : Nat) (ek : EK) (p1 : Int32) (p2 : Int32) (σ μ ω : Mem) (res : Int32 × Mem) (h : fX6_booking p1 p2 μ = some res) : CT l cy D B ek yX6_booking cX6_booking 3 (some .int) ({ frames := 2, cells := 0, slots := 0, locals := 43 } : Room) [.ref (B + oMd), .int p1, .int p2] σ μ ω (some (.int res.1)) σ res.2 ω := by
  refine met_X (own := "HostelBedsModel") (by decide) rfl (Nat.le_of_ble_eq_true rfl) ?_
  intro p e s m args below meth c C hrT hlk
  have hret : ∀ (pc9 : Nat) (lcs9 : List (Nat × Value)), decode cX6_booking pc9 = .ok (.ireturn, 1) → narrow .int (.int res.1) = .int res.1 → X p l e ({ frames := 2, cells := 0, slots := 0, locals := 43 } : Room) s m args below meth c 3 cy D B 0 0 (MQ below (QR cy D B (some (.int res.1)) σ res.2 ω) args s 0 0 (aB B)) pc9 lcs9 [.int res.1] σ res.2 ω := fun _ _ hd hn => x_zret C hrT hlk hn hd
  generalize (MQ below (QR cy D B (some (.int res.1)) σ res.2 ω) args s 0 0 (aB B)) = Q at hret ⊢
  obtain ⟨R, hR9⟩ : ∃ R : Room, R = ({ frames := 2, cells := 0, slots := 0, locals := 43 } : Room) := ⟨_, rfl⟩
  rw [← hR9] at hret ⊢
  unfold fX6_booking at h
  show X p l e R s m args below meth c 3 cy D B 0 0 Q 0 [(0, .ref (B + oMd)), (1, .int p1), (2, .int p2)] [] σ μ ω
  refine x_aload_n C dX6_booking_0 rfl 0 rfl ?_
  refine x_iconst C (v := 0) dX6_booking_1 (by decide) ?_
  refine x_put C (C1 := "HostelBedsModel") (T := TX6) (N := 27) (ci := 6) inXg6 tyX6 tyX6_ok nmX6 _ (c_Md) rfl 0 (by decide) (lw_g_mk tw_1131 rfl) rfl rfl rfl rfl (Nat.le_of_ble_eq_true rfl) dX6_booking_2 (s_Md_thrown) ?_
  refine x_aload_n C dX6_booking_5 rfl 0 rfl ?_
  refine x_iload_n C dX6_booking_6 rfl 1 rfl ?_
  obtain ⟨q1, hk1, h⟩ := Option.bind_eq_some_iff.mp h
  refine x_callV C (As := [.int p1]) (rest := []) (lw_g_mk tw_1431 rfl) (lw_g_mk tsel_59 rfl) (c_Md) (C1 := "HostelBedsModel") (T := TX6) (N := 27) (ci := 6) rfl (okX6_isBooking l cy D B ek p1 σ (wI μ 60 0 0 (0 : Int32)) ω _ hk1) rfl rfl (by rw [hR9]; decide) (lw_g_mk tw_1432 rfl) (lw_g_mk tw_7 rfl) (by decide) rfl (lw_g_mk tw_1429 rfl) rfl (Nat.le_of_ble_eq_true rfl) dX6_booking_7 (by rw [hR9]; decide) ?_
  refine x_if_ne C (tgt := 19) dX6_booking_10 (by decide) (fun hc2 => ?_) (fun hc2 => ?_)
  · rw [if_pos hc2] at h
    refine x_iload_n C dX6_booking_19 rfl 2 rfl ?_
    refine x_iconst C (v := 0) dX6_booking_20 (by decide) ?_
    refine x_bipush C (v := 7) dX6_booking_21 (by decide) ?_
    obtain ⟨q2, hk3, h⟩ := Option.bind_eq_some_iff.mp h
    refine x_callS C (As := [.int p2, .int (0 : Int32), .int (7 : Int32)]) (rest := []) (lw_g_mk tw_1235 rfl) (okX6_isIn l cy D B ek p2 (0 : Int32) (7 : Int32) σ (wI μ 60 0 0 (0 : Int32)) ω _ hk3) rfl rfl (by rw [hR9]; decide) (lw_g_mk tw_1236 rfl) (lw_g_mk tw_7 rfl) (by decide) rfl (lw_g_mk tw_1234 rfl) rfl (Nat.le_of_ble_eq_true rfl) dX6_booking_23 (by rw [hR9]; decide) ?_
    refine x_if_eq C (tgt := 38) dX6_booking_26 (by decide) (fun hc4 => ?_) (fun hc4 => ?_)
    · rw [if_pos hc4] at h
      refine x_aload_n C dX6_booking_38 rfl 0 rfl ?_
      refine x_iconst C (v := 2) dX6_booking_39 (by decide) ?_
      obtain ⟨q3, hk5, h⟩ := Option.bind_eq_some_iff.mp h
      refine x_callV C (As := [.int (2 : Int32)]) (rest := []) (lw_g_mk tw_1224 rfl) (lw_g_mk tsel_18 rfl) (c_Md) (C1 := "HostelBedsModel") (T := TX6) (N := 27) (ci := 6) rfl (okX6_fails l cy D B ek (2 : Int32) σ (wI μ 60 0 0 (0 : Int32)) ω _ hk5) rfl rfl (by rw [hR9]; decide) (lw_g_mk tw_1225 rfl) (lw_g_mk tw_7 rfl) (by decide) rfl (lw_g_mk tw_1222 rfl) rfl (Nat.le_of_ble_eq_true rfl) dX6_booking_40 (by rw [hR9]; decide) ?_
      cases h
      exact hret _ _ dX6_booking_43 rfl
    · rw [if_neg hc4] at h
      refine x_aload_n C dX6_booking_29 rfl 0 rfl ?_
      refine x_iload_n C dX6_booking_30 rfl 1 rfl ?_
      refine x_iload_n C dX6_booking_31 rfl 2 rfl ?_
      obtain ⟨q4, hk6, h⟩ := Option.bind_eq_some_iff.mp h
      refine x_callV C (As := [.int p1, .int p2]) (rest := []) (lw_g_mk tw_1367 rfl) (lw_g_mk tsel_48 rfl) (c_Md) (C1 := "HostelBedsModel") (T := TX6) (N := 27) (ci := 6) rfl (okX6_of l cy D B ek p1 p2 σ (wI μ 60 0 0 (0 : Int32)) ω _ hk6) rfl rfl (by rw [hR9]; decide) (lw_g_mk tw_1368 rfl) (lw_g_mk tw_7 rfl) (by decide) rfl (lw_g_mk tw_1365 rfl) rfl (Nat.le_of_ble_eq_true rfl) dX6_booking_32 (by rw [hR9]; decide) ?_
      refine x_goto C (tgt := 43) dX6_booking_35 (by decide) ?_
      cases h
      exact hret _ _ dX6_booking_43 rfl
  · rw [if_neg hc2] at h
    refine x_aload_n C dX6_booking_13 rfl 0 rfl ?_
    refine x_iconst C (v := 1) dX6_booking_14 (by decide) ?_
    obtain ⟨q5, hk7, h⟩ := Option.bind_eq_some_iff.mp h
    refine x_callV C (As := [.int (1 : Int32)]) (rest := []) (lw_g_mk tw_1224 rfl) (lw_g_mk tsel_18 rfl) (c_Md) (C1 := "HostelBedsModel") (T := TX6) (N := 27) (ci := 6) rfl (okX6_fails l cy D B ek (1 : Int32) σ (wI μ 60 0 0 (0 : Int32)) ω _ hk7) rfl rfl (by rw [hR9]; decide) (lw_g_mk tw_1225 rfl) (lw_g_mk tw_7 rfl) (by decide) rfl (lw_g_mk tw_1222 rfl) rfl (Nat.le_of_ble_eq_true rfl) dX6_booking_15 (by rw [hR9]; decide) ?_
    cases h
    exact hret _ _ dX6_booking_18 rfl
def jX6_placeOf_BN_30 (a3 : Int32) : Option ((Int32) ⊕ ((Unit) ⊕ (Int32))) := (some (.inl (a3 + (1 : Int32))))
def stX6_placeOf_BN_3 (p3 : Int32) (μ : Mem) (p1 : Int64) (a3 : Int32) : Option ((Int32) ⊕ ((Unit) ⊕ (Int32))) := (if p3 ≤ a3 then (some (.inr (.inl ()))) else (gd (inb a3 17) (if (lg_cmp (rJ μ 12 0 a3.toNatClampNeg) (0 : Int64)) = 0 then (jX6_placeOf_BN_30 a3) else (if ¬ (lg_cmp (rJ μ 12 0 a3.toNatClampNeg) p1) = 0 then (jX6_placeOf_BN_30 a3) else (some (.inr (.inr a3)))))))
def fX6_placeOf_BN (p1 : Int64) (p3 : Int32) (μ : Mem) : Option (Int32) := ((loop (stX6_placeOf_BN_3 p3 μ p1) 5000 ((0 : Int32))).bind fun b3 => Sum.elim (fun z3 => (some ((-1 : Int32)))) (fun w3 => (some w3)) b3)
set_option maxHeartbeats 4000000 in
set_option maxRecDepth 100000 in
theorem okX6_placeOf_BN (l : Launch) (cy : Nat → ClassId) (D : va_G) (B : Nat) (ek : EK) (p1 : Int64) (p3 : Int32) (σ μ ω : Mem) (res : Int32) (h : fX6_placeOf_BN p1 p3 μ = some res) : CT l cy D B ek yX6_placeOf cX6_placeOf 5 (some .int) ({ frames := 0, cells := 0, slots := 0, locals := 0 } : Room) [.long p1, .ref (B + oBN), .int p3] σ μ ω (some (.int res)) σ μ ω := by
  refine met_X (own := "HostelBedsModel") (by decide) rfl (Nat.le_of_ble_eq_true rfl) ?_
  intro p e s m args below meth c C hrT hlk
  have hret : ∀ (pc9 : Nat) (lcs9 : List (Nat × Value)), decode cX6_placeOf pc9 = .ok (.ireturn, 1) → narrow .int (.int res) = .int res → X p l e ({ frames := 0, cells := 0, slots := 0, locals := 0 } : Room) s m args below meth c 5 cy D B 0 0 (MQ below (QR cy D B (some (.int res)) σ μ ω) args s 0 0 (aB B)) pc9 lcs9 [.int res] σ μ ω := fun _ _ hd hn => x_zret C hrT hlk hn hd
  generalize (MQ below (QR cy D B (some (.int res)) σ μ ω) args s 0 0 (aB B)) = Q at hret ⊢
  obtain ⟨R, hR9⟩ : ∃ R : Room, R = ({ frames := 0, cells := 0, slots := 0, locals := 0 } : Room) := ⟨_, rfl⟩
  rw [← hR9] at hret ⊢
  unfold fX6_placeOf_BN at h
  show X p l e R s m args below meth c 5 cy D B 0 0 Q 0 [(0, .long p1), (2, .ref (B + oBN)), (3, .int p3)] [] σ μ ω
  refine x_iconst C (v := 0) dX6_placeOf_0 (by decide) ?_
  refine x_istore C [(4, .int (0 : Int32)), (0, .long p1), (2, .ref (B + oBN)), (3, .int p3)] dX6_placeOf_1 (by decide) rfl ?_
  obtain ⟨b3, hk8, h⟩ := Option.bind_eq_some_iff.mp h
  refine x_sub [1, 2, 3, 0] rfl ?_
  refine loop_run (step := stX6_placeOf_BN_3 p3 μ p1) (P := fun (a3 : Int32) => X p l e R s m args below meth c 5 cy D B 0 0 Q 3 [(0, .long p1), (2, .ref (B + oBN)), (3, .int p3), (4, .int a3)] [] σ μ ω) (K := fun (b3 : (Unit) ⊕ (Int32)) => Sum.elim (fun z3 => X p l e R s m args below meth c 5 cy D B 0 0 Q 36 [] [] σ μ ω) (fun w3 => ∀ (pc9 : Nat) (lcs9 : List (Nat × Value)), decode cX6_placeOf pc9 = .ok (.ireturn, 1) → narrow .int (.int w3) = .int w3 → X p l e R s m args below meth c 5 cy D B 0 0 Q pc9 lcs9 [.int w3] σ μ ω) b3) ?_ 5000 ((0 : Int32)) b3 hk8 ?_
  · intro a3 r h hA1 hB2
    unfold stX6_placeOf_BN_3 at h
    refine x_iload C dX6_placeOf_3 3 rfl ?_
    refine x_iload_n C dX6_placeOf_5 rfl 2 rfl ?_
    refine x_icmp_ge C (tgt := 36) dX6_placeOf_6 (by decide) (fun hc3 => ?_) (fun hc3 => ?_)
    · rw [if_pos hc3] at h
      cases h
      refine x_sub [] rfl ?_
      exact hB2 (.inl ()) rfl
    · rw [if_neg hc3] at h
      refine x_aload_n C dX6_placeOf_9 rfl 1 rfl ?_
      refine x_iload C dX6_placeOf_10 3 rfl ?_
      obtain ⟨hg4, h⟩ := gd_some h
      refine x_lald C _ (c_BN) hg4 dX6_placeOf_12 ?_
      refine x_lconst C (v := 0) dX6_placeOf_13 (by decide) ?_
      refine x_lcmp C dX6_placeOf_14 ?_
      have hJ5 : ∀ (r9 : (Int32) ⊕ ((Unit) ⊕ (Int32))), jX6_placeOf_BN_30 a3 = some r9 → (∀ a2, r9 = .inl a2 → (fun (a3 : Int32) => X p l e R s m args below meth c 5 cy D B 0 0 Q 3 [(0, .long p1), (2, .ref (B + oBN)), (3, .int p3), (4, .int a3)] [] σ μ ω) a2) → (∀ b2, r9 = .inr b2 → (fun (b3 : (Unit) ⊕ (Int32)) => Sum.elim (fun z3 => X p l e R s m args below meth c 5 cy D B 0 0 Q 36 [] [] σ μ ω) (fun w3 => ∀ (pc9 : Nat) (lcs9 : List (Nat × Value)), decode cX6_placeOf pc9 = .ok (.ireturn, 1) → narrow .int (.int w3) = .int w3 → X p l e R s m args below meth c 5 cy D B 0 0 Q pc9 lcs9 [.int w3] σ μ ω) b3) b2) → X p l e R s m args below meth c 5 cy D B 0 0 Q 30 [(0, .long p1), (2, .ref (B + oBN)), (3, .int p3), (4, .int a3)] [] σ μ ω := by
        intro r h hA1 hB2
        unfold jX6_placeOf_BN_30 at h
        refine x_iinc C (k := 3) [(4, .int (a3 + (1 : Int32))), (0, .long p1), (2, .ref (B + oBN)), (3, .int p3)] dX6_placeOf_30 rfl rfl (by decide) rfl ?_
        refine x_goto C (tgt := 3) dX6_placeOf_33 (by decide) ?_
        cases h
        refine x_sub [1, 2, 3, 0] rfl ?_
        exact hA1 (a3 + (1 : Int32)) rfl
      refine x_if_eq C (tgt := 30) dX6_placeOf_15 (by decide) (fun hc6 => ?_) (fun hc6 => ?_)
      · rw [if_pos hc6] at h
        exact hJ5 _ h hA1 hB2
      · rw [if_neg hc6] at h
        refine x_aload_n C dX6_placeOf_18 rfl 1 rfl ?_
        refine x_iload C dX6_placeOf_19 3 rfl ?_
        refine x_lald C _ (c_BN) hg4 dX6_placeOf_21 ?_
        refine x_lload_n C dX6_placeOf_22 rfl 0 rfl ?_
        refine x_lcmp C dX6_placeOf_23 ?_
        refine x_if_ne C (tgt := 30) dX6_placeOf_24 (by decide) (fun hc7 => ?_) (fun hc7 => ?_)
        · rw [if_pos hc7] at h
          exact hJ5 _ h hA1 hB2
        · rw [if_neg hc7] at h
          refine x_iload C dX6_placeOf_27 3 rfl ?_
          cases h
          exact hB2 (.inr a3) rfl _ _ dX6_placeOf_29 rfl
  · rcases b3 with z3 | w3
    · rw [Sum.elim_inl] at h
      show X p l e R s m args below meth c 5 cy D B 0 0 Q 36 [] [] σ μ ω
      refine x_iconst C (v := -1) dX6_placeOf_36 (by decide) ?_
      cases h
      exact hret _ _ dX6_placeOf_37 rfl
    · rw [Sum.elim_inr] at h
      show ∀ (pc9 : Nat) (lcs9 : List (Nat × Value)), decode cX6_placeOf pc9 = .ok (.ireturn, 1) → narrow .int (.int w3) = .int w3 → X p l e R s m args below meth c 5 cy D B 0 0 Q pc9 lcs9 [.int w3] σ μ ω
      cases h
      exact hret
def jX6_placeOf_RN_30 (a3 : Int32) : Option ((Int32) ⊕ ((Unit) ⊕ (Int32))) := (some (.inl (a3 + (1 : Int32))))
def stX6_placeOf_RN_3 (p3 : Int32) (μ : Mem) (p1 : Int64) (a3 : Int32) : Option ((Int32) ⊕ ((Unit) ⊕ (Int32))) := (if p3 ≤ a3 then (some (.inr (.inl ()))) else (gd (inb a3 8) (if (lg_cmp (rJ μ 11 0 a3.toNatClampNeg) (0 : Int64)) = 0 then (jX6_placeOf_RN_30 a3) else (if ¬ (lg_cmp (rJ μ 11 0 a3.toNatClampNeg) p1) = 0 then (jX6_placeOf_RN_30 a3) else (some (.inr (.inr a3)))))))
def fX6_placeOf_RN (p1 : Int64) (p3 : Int32) (μ : Mem) : Option (Int32) := ((loop (stX6_placeOf_RN_3 p3 μ p1) 5000 ((0 : Int32))).bind fun b3 => Sum.elim (fun z3 => (some ((-1 : Int32)))) (fun w3 => (some w3)) b3)
set_option maxHeartbeats 4000000 in
set_option maxRecDepth 100000 in
theorem okX6_placeOf_RN (l : Launch) (cy : Nat → ClassId) (D : va_G) (B : Nat) (ek : EK) (p1 : Int64) (p3 : Int32) (σ μ ω : Mem) (res : Int32) (h : fX6_placeOf_RN p1 p3 μ = some res) : CT l cy D B ek yX6_placeOf cX6_placeOf 5 (some .int) ({ frames := 0, cells := 0, slots := 0, locals := 0 } : Room) [.long p1, .ref (B + oRN), .int p3] σ μ ω (some (.int res)) σ μ ω := by
  refine met_X (own := "HostelBedsModel") (by decide) rfl (Nat.le_of_ble_eq_true rfl) ?_
  intro p e s m args below meth c C hrT hlk
  have hret : ∀ (pc9 : Nat) (lcs9 : List (Nat × Value)), decode cX6_placeOf pc9 = .ok (.ireturn, 1) → narrow .int (.int res) = .int res → X p l e ({ frames := 0, cells := 0, slots := 0, locals := 0 } : Room) s m args below meth c 5 cy D B 0 0 (MQ below (QR cy D B (some (.int res)) σ μ ω) args s 0 0 (aB B)) pc9 lcs9 [.int res] σ μ ω := fun _ _ hd hn => x_zret C hrT hlk hn hd
  generalize (MQ below (QR cy D B (some (.int res)) σ μ ω) args s 0 0 (aB B)) = Q at hret ⊢
  obtain ⟨R, hR9⟩ : ∃ R : Room, R = ({ frames := 0, cells := 0, slots := 0, locals := 0 } : Room) := ⟨_, rfl⟩
  rw [← hR9] at hret ⊢
  unfold fX6_placeOf_RN at h
  show X p l e R s m args below meth c 5 cy D B 0 0 Q 0 [(0, .long p1), (2, .ref (B + oRN)), (3, .int p3)] [] σ μ ω
  refine x_iconst C (v := 0) dX6_placeOf_0 (by decide) ?_
  refine x_istore C [(4, .int (0 : Int32)), (0, .long p1), (2, .ref (B + oRN)), (3, .int p3)] dX6_placeOf_1 (by decide) rfl ?_
  obtain ⟨b3, hk8, h⟩ := Option.bind_eq_some_iff.mp h
  refine x_sub [1, 2, 3, 0] rfl ?_
  refine loop_run (step := stX6_placeOf_RN_3 p3 μ p1) (P := fun (a3 : Int32) => X p l e R s m args below meth c 5 cy D B 0 0 Q 3 [(0, .long p1), (2, .ref (B + oRN)), (3, .int p3), (4, .int a3)] [] σ μ ω) (K := fun (b3 : (Unit) ⊕ (Int32)) => Sum.elim (fun z3 => X p l e R s m args below meth c 5 cy D B 0 0 Q 36 [] [] σ μ ω) (fun w3 => ∀ (pc9 : Nat) (lcs9 : List (Nat × Value)), decode cX6_placeOf pc9 = .ok (.ireturn, 1) → narrow .int (.int w3) = .int w3 → X p l e R s m args below meth c 5 cy D B 0 0 Q pc9 lcs9 [.int w3] σ μ ω) b3) ?_ 5000 ((0 : Int32)) b3 hk8 ?_
  · intro a3 r h hA1 hB2
    unfold stX6_placeOf_RN_3 at h
    refine x_iload C dX6_placeOf_3 3 rfl ?_
    refine x_iload_n C dX6_placeOf_5 rfl 2 rfl ?_
    refine x_icmp_ge C (tgt := 36) dX6_placeOf_6 (by decide) (fun hc3 => ?_) (fun hc3 => ?_)
    · rw [if_pos hc3] at h
      cases h
      refine x_sub [] rfl ?_
      exact hB2 (.inl ()) rfl
    · rw [if_neg hc3] at h
      refine x_aload_n C dX6_placeOf_9 rfl 1 rfl ?_
      refine x_iload C dX6_placeOf_10 3 rfl ?_
      obtain ⟨hg4, h⟩ := gd_some h
      refine x_lald C _ (c_RN) hg4 dX6_placeOf_12 ?_
      refine x_lconst C (v := 0) dX6_placeOf_13 (by decide) ?_
      refine x_lcmp C dX6_placeOf_14 ?_
      have hJ5 : ∀ (r9 : (Int32) ⊕ ((Unit) ⊕ (Int32))), jX6_placeOf_RN_30 a3 = some r9 → (∀ a2, r9 = .inl a2 → (fun (a3 : Int32) => X p l e R s m args below meth c 5 cy D B 0 0 Q 3 [(0, .long p1), (2, .ref (B + oRN)), (3, .int p3), (4, .int a3)] [] σ μ ω) a2) → (∀ b2, r9 = .inr b2 → (fun (b3 : (Unit) ⊕ (Int32)) => Sum.elim (fun z3 => X p l e R s m args below meth c 5 cy D B 0 0 Q 36 [] [] σ μ ω) (fun w3 => ∀ (pc9 : Nat) (lcs9 : List (Nat × Value)), decode cX6_placeOf pc9 = .ok (.ireturn, 1) → narrow .int (.int w3) = .int w3 → X p l e R s m args below meth c 5 cy D B 0 0 Q pc9 lcs9 [.int w3] σ μ ω) b3) b2) → X p l e R s m args below meth c 5 cy D B 0 0 Q 30 [(0, .long p1), (2, .ref (B + oRN)), (3, .int p3), (4, .int a3)] [] σ μ ω := by
        intro r h hA1 hB2
        unfold jX6_placeOf_RN_30 at h
        refine x_iinc C (k := 3) [(4, .int (a3 + (1 : Int32))), (0, .long p1), (2, .ref (B + oRN)), (3, .int p3)] dX6_placeOf_30 rfl rfl (by decide) rfl ?_
        refine x_goto C (tgt := 3) dX6_placeOf_33 (by decide) ?_
        cases h
        refine x_sub [1, 2, 3, 0] rfl ?_
        exact hA1 (a3 + (1 : Int32)) rfl
      refine x_if_eq C (tgt := 30) dX6_placeOf_15 (by decide) (fun hc6 => ?_) (fun hc6 => ?_)
      · rw [if_pos hc6] at h
        exact hJ5 _ h hA1 hB2
      · rw [if_neg hc6] at h
        refine x_aload_n C dX6_placeOf_18 rfl 1 rfl ?_
        refine x_iload C dX6_placeOf_19 3 rfl ?_
        refine x_lald C _ (c_RN) hg4 dX6_placeOf_21 ?_
        refine x_lload_n C dX6_placeOf_22 rfl 0 rfl ?_
        refine x_lcmp C dX6_placeOf_23 ?_
        refine x_if_ne C (tgt := 30) dX6_placeOf_24 (by decide) (fun hc7 => ?_) (fun hc7 => ?_)
        · rw [if_pos hc7] at h
          exact hJ5 _ h hA1 hB2
        · rw [if_neg hc7] at h
          refine x_iload C dX6_placeOf_27 3 rfl ?_
          cases h
          exact hB2 (.inr a3) rfl _ _ dX6_placeOf_29 rfl
  · rcases b3 with z3 | w3
    · rw [Sum.elim_inl] at h
      show X p l e R s m args below meth c 5 cy D B 0 0 Q 36 [] [] σ μ ω
      refine x_iconst C (v := -1) dX6_placeOf_36 (by decide) ?_
      cases h
      exact hret _ _ dX6_placeOf_37 rfl
    · rw [Sum.elim_inr] at h
      show ∀ (pc9 : Nat) (lcs9 : List (Nat × Value)), decode cX6_placeOf pc9 = .ok (.ireturn, 1) → narrow .int (.int w3) = .int w3 → X p l e R s m args below meth c 5 cy D B 0 0 Q pc9 lcs9 [.int w3] σ μ ω
      cases h
      exact hret
def stX6_find_22 (μ : Mem) (a22 : Int64 × Int32 × Int32) : Option ((Int64 × Int32 × Int32) ⊕ (Int64 × Int32)) := (if (rI (wI μ 60 0 0 (0 : Int32)) 66 0 0) ≤ a22.2.2 then (some (.inr (a22.1, a22.2.1))) else (if a22.2.1 = 0 then (some (.inr (a22.1, a22.2.1))) else (gd (inb a22.2.2 700) ((fX6_isIn (rI (wI μ 60 0 0 (0 : Int32)) 65 0 a22.2.2.toNatClampNeg) (97 : Int32) (122 : Int32)).bind fun q2 => ((fX6_more a22.1 (rI (wI μ 60 0 0 (0 : Int32)) 65 0 a22.2.2.toNatClampNeg)).bind fun q3 => (some (.inl (q3, q2, a22.2.2 + (1 : Int32)))))))))
def jX6_find_113 (μ : Mem) (t4 : Int32) : Option (Int32 × Mem) := (if ¬ t4 = (-1 : Int32) then (some (t4, wI μ 60 0 0 (0 : Int32))) else ((fX6_fails (1 : Int32) (wI μ 60 0 0 (0 : Int32))).bind fun q5 => (some (q5.1, q5.2))))
def fX6_find (p1 : Int32) (μ : Mem) : Option (Int32 × Mem) := ((fX6_isIn (rI (wI μ 60 0 0 (0 : Int32)) 66 0 0) (1 : Int32) (8 : Int32)).bind fun q1 => ((loop (stX6_find_22 μ) 5000 ((0 : Int64), q1, (0 : Int32))).bind fun b22 => (if ¬ b22.2 = 0 then (if p1 = 0 then ((fX6_get (37 : Int32) (wI μ 60 0 0 (0 : Int32))).bind fun q6 => ((fX6_placeOf_BN b22.1 q6 (wI μ 60 0 0 (0 : Int32))).bind fun q7 => (jX6_find_113 μ q7))) else ((fX6_get (4 : Int32) (wI μ 60 0 0 (0 : Int32))).bind fun q8 => ((fX6_placeOf_RN b22.1 q8 (wI μ 60 0 0 (0 : Int32))).bind fun q9 => (jX6_find_113 μ q9)))) else (jX6_find_113 μ (-1 : Int32)))))
set_option maxHeartbeats 4000000 in
set_option maxRecDepth 100000 in
theorem okX6_find (l : Launch) (cy : Nat → ClassId) (D : va_G) (B : Nat) (ek : EK) (p1 : Int32) (σ μ ω : Mem) (res : Int32 × Mem) (h : fX6_find p1 μ = some res) : CT l cy D B ek yX6_find cX6_find 6 (some .int) ({ frames := 1, cells := 0, slots := 0, locals := 24 } : Room) [.ref (B + oMd), .int p1] σ μ ω (some (.int res.1)) σ res.2 ω := by
  refine met_X (own := "HostelBedsModel") (by decide) rfl (Nat.le_of_ble_eq_true rfl) ?_
  intro p e s m args below meth c C hrT hlk
  have hret : ∀ (pc9 : Nat) (lcs9 : List (Nat × Value)), decode cX6_find pc9 = .ok (.ireturn, 1) → narrow .int (.int res.1) = .int res.1 → X p l e ({ frames := 1, cells := 0, slots := 0, locals := 24 } : Room) s m args below meth c 6 cy D B 0 0 (MQ below (QR cy D B (some (.int res.1)) σ res.2 ω) args s 0 0 (aB B)) pc9 lcs9 [.int res.1] σ res.2 ω := fun _ _ hd hn => x_zret C hrT hlk hn hd
  generalize (MQ below (QR cy D B (some (.int res.1)) σ res.2 ω) args s 0 0 (aB B)) = Q at hret ⊢
  obtain ⟨R, hR9⟩ : ∃ R : Room, R = ({ frames := 1, cells := 0, slots := 0, locals := 24 } : Room) := ⟨_, rfl⟩
  rw [← hR9] at hret ⊢
  unfold fX6_find at h
  show X p l e R s m args below meth c 6 cy D B 0 0 Q 0 [(0, .ref (B + oMd)), (1, .int p1)] [] σ μ ω
  refine x_aload_n C dX6_find_0 rfl 0 rfl ?_
  refine x_iconst C (v := 0) dX6_find_1 (by decide) ?_
  refine x_put C (C1 := "HostelBedsModel") (T := TX6) (N := 27) (ci := 6) inXg6 tyX6 tyX6_ok nmX6 _ (c_Md) rfl 0 (by decide) (lw_g_mk tw_1131 rfl) rfl rfl rfl rfl (Nat.le_of_ble_eq_true rfl) dX6_find_2 (s_Md_thrown) ?_
  refine x_lconst C (v := 0) dX6_find_5 (by decide) ?_
  refine x_lstore_n C [(2, .long (0 : Int64)), (0, .ref (B + oMd)), (1, .int p1)] dX6_find_6 rfl (by decide) rfl ?_
  refine x_aload_n C dX6_find_7 rfl 1 rfl ?_
  refine x_get C (C1 := "HostelBedsModel") (T := TX6) (N := 27) (ci := 6) inXg6 _ (c_Md) rfl 10 (by decide) (lw_g_mk tw_1141 rfl) rfl dX6_find_8 ?_
  refine x_iconst C (v := 1) dX6_find_11 (by decide) ?_
  refine x_bipush C (v := 8) dX6_find_12 (by decide) ?_
  obtain ⟨q1, hk1, h⟩ := Option.bind_eq_some_iff.mp h
  refine x_callS C (As := [.int (rI (wI μ 60 0 0 (0 : Int32)) 66 0 0), .int (1 : Int32), .int (8 : Int32)]) (rest := []) (lw_g_mk tw_1235 rfl) (okX6_isIn l cy D B ek (rI (wI μ 60 0 0 (0 : Int32)) 66 0 0) (1 : Int32) (8 : Int32) σ (wI μ 60 0 0 (0 : Int32)) ω _ hk1) rfl rfl (by rw [hR9]; decide) (lw_g_mk tw_1236 rfl) (lw_g_mk tw_7 rfl) (by decide) rfl (lw_g_mk tw_1234 rfl) rfl (Nat.le_of_ble_eq_true rfl) dX6_find_14 (by rw [hR9]; decide) ?_
  refine x_istore C [(4, .int q1), (2, .long (0 : Int64)), (0, .ref (B + oMd)), (1, .int p1)] dX6_find_17 (by decide) rfl ?_
  refine x_iconst C (v := 0) dX6_find_19 (by decide) ?_
  refine x_istore C [(5, .int (0 : Int32)), (4, .int q1), (2, .long (0 : Int64)), (0, .ref (B + oMd)), (1, .int p1)] dX6_find_20 (by decide) rfl ?_
  obtain ⟨b22, hk9, h⟩ := Option.bind_eq_some_iff.mp h
  refine x_sub [3, 4, 2, 1, 0] rfl ?_
  refine loop_run (step := stX6_find_22 μ) (P := fun (a22 : Int64 × Int32 × Int32) => X p l e R s m args below meth c 6 cy D B 0 0 Q 22 [(0, .ref (B + oMd)), (1, .int p1), (2, .long a22.1), (4, .int a22.2.1), (5, .int a22.2.2)] [] σ (wI μ 60 0 0 (0 : Int32)) ω) (K := fun (b22 : Int64 × Int32) => X p l e R s m args below meth c 6 cy D B 0 0 Q 70 [(0, .ref (B + oMd)), (1, .int p1), (2, .long b22.1), (4, .int b22.2)] [] σ (wI μ 60 0 0 (0 : Int32)) ω) ?_ 5000 ((0 : Int64), q1, (0 : Int32)) b22 hk9 ?_
  · intro a22 r h hA2 hB3
    unfold stX6_find_22 at h
    refine x_iload C dX6_find_22 4 rfl ?_
    refine x_aload_n C dX6_find_24 rfl 0 rfl ?_
    refine x_get C (C1 := "HostelBedsModel") (T := TX6) (N := 27) (ci := 6) inXg6 _ (c_Md) rfl 10 (by decide) (lw_g_mk tw_1141 rfl) rfl dX6_find_25 ?_
    refine x_icmp_ge C (tgt := 70) dX6_find_28 (by decide) (fun hc4 => ?_) (fun hc4 => ?_)
    · rw [if_pos hc4] at h
      cases h
      refine x_sub [0, 1, 2, 3] rfl ?_
      exact hB3 (a22.1, a22.2.1) rfl
    · rw [if_neg hc4] at h
      refine x_iload C dX6_find_31 3 rfl ?_
      refine x_if_eq C (tgt := 70) dX6_find_33 (by decide) (fun hc5 => ?_) (fun hc5 => ?_)
      · rw [if_pos hc5] at h
        cases h
        refine x_sub [0, 1, 2, 3] rfl ?_
        exact hB3 (a22.1, a22.2.1) rfl
      · rw [if_neg hc5] at h
        refine x_aload_n C dX6_find_36 rfl 0 rfl ?_
        refine x_get C (C1 := "HostelBedsModel") (T := TX6) (N := 27) (ci := 6) inXg6 _ (c_Md) rfl 9 (by decide) (lw_g_mk tw_1140 rfl) rfl dX6_find_37 ?_
        refine x_iload C dX6_find_40 4 rfl ?_
        obtain ⟨hg6, h⟩ := gd_some h
        refine x_bald C _ (c_Buf) hg6 dX6_find_42 ?_
        refine x_bipush C (v := 97) dX6_find_43 (by decide) ?_
        refine x_bipush C (v := 122) dX6_find_45 (by decide) ?_
        obtain ⟨q2, hk7, h⟩ := Option.bind_eq_some_iff.mp h
        refine x_callS C (As := [.int (rI (wI μ 60 0 0 (0 : Int32)) 65 0 a22.2.2.toNatClampNeg), .int (97 : Int32), .int (122 : Int32)]) (rest := []) (lw_g_mk tw_1235 rfl) (okX6_isIn l cy D B ek (rI (wI μ 60 0 0 (0 : Int32)) 65 0 a22.2.2.toNatClampNeg) (97 : Int32) (122 : Int32) σ (wI μ 60 0 0 (0 : Int32)) ω _ hk7) rfl rfl (by rw [hR9]; decide) (lw_g_mk tw_1236 rfl) (lw_g_mk tw_7 rfl) (by decide) rfl (lw_g_mk tw_1234 rfl) rfl (Nat.le_of_ble_eq_true rfl) dX6_find_47 (by rw [hR9]; decide) ?_
        refine x_istore C [(4, .int q2), (0, .ref (B + oMd)), (1, .int p1), (2, .long a22.1), (5, .int a22.2.2)] dX6_find_50 (by decide) rfl ?_
        refine x_lload_n C dX6_find_52 rfl 3 rfl ?_
        refine x_aload_n C dX6_find_53 rfl 1 rfl ?_
        refine x_get C (C1 := "HostelBedsModel") (T := TX6) (N := 27) (ci := 6) inXg6 _ (c_Md) rfl 9 (by decide) (lw_g_mk tw_1140 rfl) rfl dX6_find_54 ?_
        refine x_iload C dX6_find_57 4 rfl ?_
        refine x_bald C _ (c_Buf) hg6 dX6_find_59 ?_
        obtain ⟨q3, hk8, h⟩ := Option.bind_eq_some_iff.mp h
        refine x_callS C (As := [.long a22.1, .int (rI (wI μ 60 0 0 (0 : Int32)) 65 0 a22.2.2.toNatClampNeg)]) (rest := []) (lw_g_mk tw_1283 rfl) (okX6_more l cy D B ek a22.1 (rI (wI μ 60 0 0 (0 : Int32)) 65 0 a22.2.2.toNatClampNeg) σ (wI μ 60 0 0 (0 : Int32)) ω _ hk8) rfl rfl (by rw [hR9]; decide) (lw_g_mk tw_1284 rfl) (lw_g_mk tw_7 rfl) (by decide) rfl (lw_g_mk tw_1282 rfl) rfl (Nat.le_of_ble_eq_true rfl) dX6_find_60 (by rw [hR9]; decide) ?_
        refine x_lstore_n C [(2, .long q3), (4, .int q2), (0, .ref (B + oMd)), (1, .int p1), (5, .int a22.2.2)] dX6_find_63 rfl (by decide) rfl ?_
        refine x_iinc C (k := 4) [(5, .int (a22.2.2 + (1 : Int32))), (2, .long q3), (4, .int q2), (0, .ref (B + oMd)), (1, .int p1)] dX6_find_64 rfl rfl (by decide) rfl ?_
        refine x_goto C (tgt := 22) dX6_find_67 (by decide) ?_
        cases h
        refine x_sub [3, 4, 1, 2, 0] rfl ?_
        exact hA2 (q3, q2, a22.2.2 + (1 : Int32)) rfl
  · show X p l e R s m args below meth c 6 cy D B 0 0 Q 70 [(0, .ref (B + oMd)), (1, .int p1), (2, .long b22.1), (4, .int b22.2)] [] σ (wI μ 60 0 0 (0 : Int32)) ω
    refine x_iload C dX6_find_70 3 rfl ?_
    have hJ12 : ∀ (t4 : Int32) (r9 : Int32 × Mem), jX6_find_113 μ t4 = some r9 → (∀ (pc9 : Nat) (lcs9 : List (Nat × Value)), decode cX6_find pc9 = .ok (.ireturn, 1) → narrow .int (.int r9.1) = .int r9.1 → X p l e R s m args below meth c 6 cy D B 0 0 Q pc9 lcs9 [.int r9.1] σ r9.2 ω) → X p l e R s m args below meth c 6 cy D B 0 0 Q 113 [(0, .ref (B + oMd))] [.int t4] σ (wI μ 60 0 0 (0 : Int32)) ω := by
      intro t4 res9 h hret
      unfold jX6_find_113 at h
      refine x_istore C [(5, .int t4), (0, .ref (B + oMd))] dX6_find_113 (by decide) rfl ?_
      refine x_iload C dX6_find_115 0 rfl ?_
      refine x_iconst C (v := -1) dX6_find_117 (by decide) ?_
      refine x_icmp_ne C (tgt := 129) dX6_find_118 (by decide) (fun hc10 => ?_) (fun hc10 => ?_)
      · rw [if_pos hc10] at h
        refine x_iload C dX6_find_129 0 rfl ?_
        cases h
        exact hret _ _ dX6_find_131 rfl
      · rw [if_neg hc10] at h
        refine x_aload_n C dX6_find_121 rfl 1 rfl ?_
        refine x_iconst C (v := 1) dX6_find_122 (by decide) ?_
        obtain ⟨q5, hk11, h⟩ := Option.bind_eq_some_iff.mp h
        refine x_callV C (As := [.int (1 : Int32)]) (rest := []) (lw_g_mk tw_1224 rfl) (lw_g_mk tsel_18 rfl) (c_Md) (C1 := "HostelBedsModel") (T := TX6) (N := 27) (ci := 6) rfl (okX6_fails l cy D B ek (1 : Int32) σ (wI μ 60 0 0 (0 : Int32)) ω _ hk11) rfl rfl (by rw [hR9]; decide) (lw_g_mk tw_1225 rfl) (lw_g_mk tw_7 rfl) (by decide) rfl (lw_g_mk tw_1222 rfl) rfl (Nat.le_of_ble_eq_true rfl) dX6_find_123 (by rw [hR9]; decide) ?_
        refine x_goto C (tgt := 131) dX6_find_126 (by decide) ?_
        cases h
        exact hret _ _ dX6_find_131 rfl
    refine x_if_ne C (tgt := 79) dX6_find_72 (by decide) (fun hc13 => ?_) (fun hc13 => ?_)
    · rw [if_pos hc13] at h
      refine x_iload_n C dX6_find_79 rfl 1 rfl ?_
      refine x_if_eq C (tgt := 99) dX6_find_80 (by decide) (fun hc14 => ?_) (fun hc14 => ?_)
      · rw [if_pos hc14] at h
        refine x_lload_n C dX6_find_99 rfl 2 rfl ?_
        refine x_aload_n C dX6_find_100 rfl 0 rfl ?_
        refine x_get C (C1 := "HostelBedsModel") (T := TX6) (N := 27) (ci := 6) inXg6 _ (c_Md) rfl 6 (by decide) (lw_g_mk tw_1137 rfl) rfl dX6_find_101 ?_
        refine x_aload_n C dX6_find_104 rfl 0 rfl ?_
        refine x_bipush C (v := 37) dX6_find_105 (by decide) ?_
        obtain ⟨q6, hk15, h⟩ := Option.bind_eq_some_iff.mp h
        refine x_callV C (As := [.int (37 : Int32)]) (rest := [.ref (B + oBN), .long b22.1]) (lw_g_mk tw_1296 rfl) (lw_g_mk tsel_31 rfl) (c_Md) (C1 := "HostelBedsModel") (T := TX6) (N := 27) (ci := 6) rfl (okX6_get l cy D B ek (37 : Int32) σ (wI μ 60 0 0 (0 : Int32)) ω _ hk15) rfl rfl (by rw [hR9]; decide) (lw_g_mk tw_1297 rfl) (lw_g_mk tw_7 rfl) (by decide) rfl (lw_g_mk tw_1294 rfl) rfl (Nat.le_of_ble_eq_true rfl) dX6_find_107 (by rw [hR9]; decide) ?_
        obtain ⟨q7, hk16, h⟩ := Option.bind_eq_some_iff.mp h
        refine x_callS C (As := [.long b22.1, .ref (B + oBN), .int q6]) (rest := []) (lw_g_mk tw_1307 rfl) (okX6_placeOf_BN l cy D B ek b22.1 q6 σ (wI μ 60 0 0 (0 : Int32)) ω _ hk16) rfl rfl (by rw [hR9]; decide) (lw_g_mk tw_1308 rfl) (lw_g_mk tw_7 rfl) (by decide) rfl (lw_g_mk tw_1306 rfl) rfl (Nat.le_of_ble_eq_true rfl) dX6_find_110 (by rw [hR9]; decide) ?_
        refine x_sub [0] rfl ?_
        exact hJ12 q7 _ h hret
      · rw [if_neg hc14] at h
        refine x_lload_n C dX6_find_83 rfl 2 rfl ?_
        refine x_aload_n C dX6_find_84 rfl 0 rfl ?_
        refine x_get C (C1 := "HostelBedsModel") (T := TX6) (N := 27) (ci := 6) inXg6 _ (c_Md) rfl 5 (by decide) (lw_g_mk tw_1136 rfl) rfl dX6_find_85 ?_
        refine x_aload_n C dX6_find_88 rfl 0 rfl ?_
        refine x_iconst C (v := 4) dX6_find_89 (by decide) ?_
        obtain ⟨q8, hk17, h⟩ := Option.bind_eq_some_iff.mp h
        refine x_callV C (As := [.int (4 : Int32)]) (rest := [.ref (B + oRN), .long b22.1]) (lw_g_mk tw_1296 rfl) (lw_g_mk tsel_31 rfl) (c_Md) (C1 := "HostelBedsModel") (T := TX6) (N := 27) (ci := 6) rfl (okX6_get l cy D B ek (4 : Int32) σ (wI μ 60 0 0 (0 : Int32)) ω _ hk17) rfl rfl (by rw [hR9]; decide) (lw_g_mk tw_1297 rfl) (lw_g_mk tw_7 rfl) (by decide) rfl (lw_g_mk tw_1294 rfl) rfl (Nat.le_of_ble_eq_true rfl) dX6_find_90 (by rw [hR9]; decide) ?_
        obtain ⟨q9, hk18, h⟩ := Option.bind_eq_some_iff.mp h
        refine x_callS C (As := [.long b22.1, .ref (B + oRN), .int q8]) (rest := []) (lw_g_mk tw_1307 rfl) (okX6_placeOf_RN l cy D B ek b22.1 q8 σ (wI μ 60 0 0 (0 : Int32)) ω _ hk18) rfl rfl (by rw [hR9]; decide) (lw_g_mk tw_1308 rfl) (lw_g_mk tw_7 rfl) (by decide) rfl (lw_g_mk tw_1306 rfl) rfl (Nat.le_of_ble_eq_true rfl) dX6_find_93 (by rw [hR9]; decide) ?_
        refine x_goto C (tgt := 113) dX6_find_96 (by decide) ?_
        refine x_sub [0] rfl ?_
        exact hJ12 q9 _ h hret
    · rw [if_neg hc13] at h
      refine x_iconst C (v := -1) dX6_find_75 (by decide) ?_
      refine x_goto C (tgt := 113) dX6_find_76 (by decide) ?_
      refine x_sub [0] rfl ?_
      exact hJ12 (-1 : Int32) _ h hret
def fX6_state (p1 : Int32) (μ : Mem) : Option (Int32 × Mem) := ((fX6_isBooking p1 (wI μ 60 0 0 (0 : Int32))).bind fun q1 => (if q1 = 0 then ((fX6_fails (1 : Int32) (wI μ 60 0 0 (0 : Int32))).bind fun q2 => (some (q2.1, q2.2))) else ((fX6_of p1 (8 : Int32) (wI μ 60 0 0 (0 : Int32))).bind fun q3 => (some (q3, wI μ 60 0 0 (0 : Int32))))))
set_option maxHeartbeats 4000000 in
set_option maxRecDepth 100000 in
theorem okX6_state (l : Launch) (cy : Nat → ClassId) (D : va_G) (B : Nat) (ek : EK) (p1 : Int32) (σ μ ω : Mem) (res : Int32 × Mem) (h : fX6_state p1 μ = some res) : CT l cy D B ek yX6_state cX6_state 2 (some .int) ({ frames := 2, cells := 0, slots := 0, locals := 43 } : Room) [.ref (B + oMd), .int p1] σ μ ω (some (.int res.1)) σ res.2 ω := by
  refine met_X (own := "HostelBedsModel") (by decide) rfl (Nat.le_of_ble_eq_true rfl) ?_
  intro p e s m args below meth c C hrT hlk
  have hret : ∀ (pc9 : Nat) (lcs9 : List (Nat × Value)), decode cX6_state pc9 = .ok (.ireturn, 1) → narrow .int (.int res.1) = .int res.1 → X p l e ({ frames := 2, cells := 0, slots := 0, locals := 43 } : Room) s m args below meth c 2 cy D B 0 0 (MQ below (QR cy D B (some (.int res.1)) σ res.2 ω) args s 0 0 (aB B)) pc9 lcs9 [.int res.1] σ res.2 ω := fun _ _ hd hn => x_zret C hrT hlk hn hd
  generalize (MQ below (QR cy D B (some (.int res.1)) σ res.2 ω) args s 0 0 (aB B)) = Q at hret ⊢
  obtain ⟨R, hR9⟩ : ∃ R : Room, R = ({ frames := 2, cells := 0, slots := 0, locals := 43 } : Room) := ⟨_, rfl⟩
  rw [← hR9] at hret ⊢
  unfold fX6_state at h
  show X p l e R s m args below meth c 2 cy D B 0 0 Q 0 [(0, .ref (B + oMd)), (1, .int p1)] [] σ μ ω
  refine x_aload_n C dX6_state_0 rfl 0 rfl ?_
  refine x_iconst C (v := 0) dX6_state_1 (by decide) ?_
  refine x_put C (C1 := "HostelBedsModel") (T := TX6) (N := 27) (ci := 6) inXg6 tyX6 tyX6_ok nmX6 _ (c_Md) rfl 0 (by decide) (lw_g_mk tw_1131 rfl) rfl rfl rfl rfl (Nat.le_of_ble_eq_true rfl) dX6_state_2 (s_Md_thrown) ?_
  refine x_aload_n C dX6_state_5 rfl 0 rfl ?_
  refine x_iload_n C dX6_state_6 rfl 1 rfl ?_
  obtain ⟨q1, hk1, h⟩ := Option.bind_eq_some_iff.mp h
  refine x_callV C (As := [.int p1]) (rest := []) (lw_g_mk tw_1431 rfl) (lw_g_mk tsel_59 rfl) (c_Md) (C1 := "HostelBedsModel") (T := TX6) (N := 27) (ci := 6) rfl (okX6_isBooking l cy D B ek p1 σ (wI μ 60 0 0 (0 : Int32)) ω _ hk1) rfl rfl (by rw [hR9]; decide) (lw_g_mk tw_1432 rfl) (lw_g_mk tw_7 rfl) (by decide) rfl (lw_g_mk tw_1429 rfl) rfl (Nat.le_of_ble_eq_true rfl) dX6_state_7 (by rw [hR9]; decide) ?_
  refine x_if_eq C (tgt := 23) dX6_state_10 (by decide) (fun hc2 => ?_) (fun hc2 => ?_)
  · rw [if_pos hc2] at h
    refine x_aload_n C dX6_state_23 rfl 0 rfl ?_
    refine x_iconst C (v := 1) dX6_state_24 (by decide) ?_
    obtain ⟨q2, hk3, h⟩ := Option.bind_eq_some_iff.mp h
    refine x_callV C (As := [.int (1 : Int32)]) (rest := []) (lw_g_mk tw_1224 rfl) (lw_g_mk tsel_18 rfl) (c_Md) (C1 := "HostelBedsModel") (T := TX6) (N := 27) (ci := 6) rfl (okX6_fails l cy D B ek (1 : Int32) σ (wI μ 60 0 0 (0 : Int32)) ω _ hk3) rfl rfl (by rw [hR9]; decide) (lw_g_mk tw_1225 rfl) (lw_g_mk tw_7 rfl) (by decide) rfl (lw_g_mk tw_1222 rfl) rfl (Nat.le_of_ble_eq_true rfl) dX6_state_25 (by rw [hR9]; decide) ?_
    cases h
    exact hret _ _ dX6_state_28 rfl
  · rw [if_neg hc2] at h
    refine x_aload_n C dX6_state_13 rfl 0 rfl ?_
    refine x_iload_n C dX6_state_14 rfl 1 rfl ?_
    refine x_bipush C (v := 8) dX6_state_15 (by decide) ?_
    obtain ⟨q3, hk4, h⟩ := Option.bind_eq_some_iff.mp h
    refine x_callV C (As := [.int p1, .int (8 : Int32)]) (rest := []) (lw_g_mk tw_1367 rfl) (lw_g_mk tsel_48 rfl) (c_Md) (C1 := "HostelBedsModel") (T := TX6) (N := 27) (ci := 6) rfl (okX6_of l cy D B ek p1 (8 : Int32) σ (wI μ 60 0 0 (0 : Int32)) ω _ hk4) rfl rfl (by rw [hR9]; decide) (lw_g_mk tw_1368 rfl) (lw_g_mk tw_7 rfl) (by decide) rfl (lw_g_mk tw_1365 rfl) rfl (Nat.le_of_ble_eq_true rfl) dX6_state_17 (by rw [hR9]; decide) ?_
    refine x_goto C (tgt := 28) dX6_state_20 (by decide) ?_
    cases h
    exact hret _ _ dX6_state_28 rfl
def fX6_waiting (p1 : Int32) (μ : Mem) : Option (Int32 × Mem) := ((fX6_get (191 : Int32) (wI μ 60 0 0 (0 : Int32))).bind fun q1 => ((fX6_isIn p1 (0 : Int32) (q1 - (1 : Int32))).bind fun q2 => (if q2 = 0 then ((fX6_fails (1 : Int32) (wI μ 60 0 0 (0 : Int32))).bind fun q3 => (some (q3.1, q3.2))) else ((fX6_get ((192 : Int32) + p1) (wI μ 60 0 0 (0 : Int32))).bind fun q4 => (some (q4, wI μ 60 0 0 (0 : Int32)))))))
set_option maxHeartbeats 4000000 in
set_option maxRecDepth 100000 in
theorem okX6_waiting (l : Launch) (cy : Nat → ClassId) (D : va_G) (B : Nat) (ek : EK) (p1 : Int32) (σ μ ω : Mem) (res : Int32 × Mem) (h : fX6_waiting p1 μ = some res) : CT l cy D B ek yX6_waiting cX6_waiting 2 (some .int) ({ frames := 1, cells := 0, slots := 0, locals := 22 } : Room) [.ref (B + oMd), .int p1] σ μ ω (some (.int res.1)) σ res.2 ω := by
  refine met_X (own := "HostelBedsModel") (by decide) rfl (Nat.le_of_ble_eq_true rfl) ?_
  intro p e s m args below meth c C hrT hlk
  have hret : ∀ (pc9 : Nat) (lcs9 : List (Nat × Value)), decode cX6_waiting pc9 = .ok (.ireturn, 1) → narrow .int (.int res.1) = .int res.1 → X p l e ({ frames := 1, cells := 0, slots := 0, locals := 22 } : Room) s m args below meth c 2 cy D B 0 0 (MQ below (QR cy D B (some (.int res.1)) σ res.2 ω) args s 0 0 (aB B)) pc9 lcs9 [.int res.1] σ res.2 ω := fun _ _ hd hn => x_zret C hrT hlk hn hd
  generalize (MQ below (QR cy D B (some (.int res.1)) σ res.2 ω) args s 0 0 (aB B)) = Q at hret ⊢
  obtain ⟨R, hR9⟩ : ∃ R : Room, R = ({ frames := 1, cells := 0, slots := 0, locals := 22 } : Room) := ⟨_, rfl⟩
  rw [← hR9] at hret ⊢
  unfold fX6_waiting at h
  show X p l e R s m args below meth c 2 cy D B 0 0 Q 0 [(0, .ref (B + oMd)), (1, .int p1)] [] σ μ ω
  refine x_aload_n C dX6_waiting_0 rfl 0 rfl ?_
  refine x_iconst C (v := 0) dX6_waiting_1 (by decide) ?_
  refine x_put C (C1 := "HostelBedsModel") (T := TX6) (N := 27) (ci := 6) inXg6 tyX6 tyX6_ok nmX6 _ (c_Md) rfl 0 (by decide) (lw_g_mk tw_1131 rfl) rfl rfl rfl rfl (Nat.le_of_ble_eq_true rfl) dX6_waiting_2 (s_Md_thrown) ?_
  refine x_iload_n C dX6_waiting_5 rfl 1 rfl ?_
  refine x_iconst C (v := 0) dX6_waiting_6 (by decide) ?_
  refine x_aload_n C dX6_waiting_7 rfl 0 rfl ?_
  refine x_sipush C (v := 191) dX6_waiting_8 (by decide) ?_
  obtain ⟨q1, hk1, h⟩ := Option.bind_eq_some_iff.mp h
  refine x_callV C (As := [.int (191 : Int32)]) (rest := [.int (0 : Int32), .int p1]) (lw_g_mk tw_1296 rfl) (lw_g_mk tsel_31 rfl) (c_Md) (C1 := "HostelBedsModel") (T := TX6) (N := 27) (ci := 6) rfl (okX6_get l cy D B ek (191 : Int32) σ (wI μ 60 0 0 (0 : Int32)) ω _ hk1) rfl rfl (by rw [hR9]; decide) (lw_g_mk tw_1297 rfl) (lw_g_mk tw_7 rfl) (by decide) rfl (lw_g_mk tw_1294 rfl) rfl (Nat.le_of_ble_eq_true rfl) dX6_waiting_11 (by rw [hR9]; decide) ?_
  refine x_iconst C (v := 1) dX6_waiting_14 (by decide) ?_
  refine x_isub C dX6_waiting_15 ?_
  obtain ⟨q2, hk2, h⟩ := Option.bind_eq_some_iff.mp h
  refine x_callS C (As := [.int p1, .int (0 : Int32), .int (q1 - (1 : Int32))]) (rest := []) (lw_g_mk tw_1235 rfl) (okX6_isIn l cy D B ek p1 (0 : Int32) (q1 - (1 : Int32)) σ (wI μ 60 0 0 (0 : Int32)) ω _ hk2) rfl rfl (by rw [hR9]; decide) (lw_g_mk tw_1236 rfl) (lw_g_mk tw_7 rfl) (by decide) rfl (lw_g_mk tw_1234 rfl) rfl (Nat.le_of_ble_eq_true rfl) dX6_waiting_16 (by rw [hR9]; decide) ?_
  refine x_if_eq C (tgt := 34) dX6_waiting_19 (by decide) (fun hc3 => ?_) (fun hc3 => ?_)
  · rw [if_pos hc3] at h
    refine x_aload_n C dX6_waiting_34 rfl 0 rfl ?_
    refine x_iconst C (v := 1) dX6_waiting_35 (by decide) ?_
    obtain ⟨q3, hk4, h⟩ := Option.bind_eq_some_iff.mp h
    refine x_callV C (As := [.int (1 : Int32)]) (rest := []) (lw_g_mk tw_1224 rfl) (lw_g_mk tsel_18 rfl) (c_Md) (C1 := "HostelBedsModel") (T := TX6) (N := 27) (ci := 6) rfl (okX6_fails l cy D B ek (1 : Int32) σ (wI μ 60 0 0 (0 : Int32)) ω _ hk4) rfl rfl (by rw [hR9]; decide) (lw_g_mk tw_1225 rfl) (lw_g_mk tw_7 rfl) (by decide) rfl (lw_g_mk tw_1222 rfl) rfl (Nat.le_of_ble_eq_true rfl) dX6_waiting_36 (by rw [hR9]; decide) ?_
    cases h
    exact hret _ _ dX6_waiting_39 rfl
  · rw [if_neg hc3] at h
    refine x_aload_n C dX6_waiting_22 rfl 0 rfl ?_
    refine x_sipush C (v := 192) dX6_waiting_23 (by decide) ?_
    refine x_iload_n C dX6_waiting_26 rfl 1 rfl ?_
    refine x_iadd C dX6_waiting_27 ?_
    obtain ⟨q4, hk5, h⟩ := Option.bind_eq_some_iff.mp h
    refine x_callV C (As := [.int ((192 : Int32) + p1)]) (rest := []) (lw_g_mk tw_1296 rfl) (lw_g_mk tsel_31 rfl) (c_Md) (C1 := "HostelBedsModel") (T := TX6) (N := 27) (ci := 6) rfl (okX6_get l cy D B ek ((192 : Int32) + p1) σ (wI μ 60 0 0 (0 : Int32)) ω _ hk5) rfl rfl (by rw [hR9]; decide) (lw_g_mk tw_1297 rfl) (lw_g_mk tw_7 rfl) (by decide) rfl (lw_g_mk tw_1294 rfl) rfl (Nat.le_of_ble_eq_true rfl) dX6_waiting_28 (by rw [hR9]; decide) ?_
    refine x_goto C (tgt := 39) dX6_waiting_31 (by decide) ?_
    cases h
    exact hret _ _ dX6_waiting_39 rfl
def fX6_spot (p1 : Int32) (p2 : Int32) (p3 : Int32) : Option (Int32) := (some (((((10 : Int32) * p1) + p2) * (30 : Int32)) + p3))
set_option maxHeartbeats 4000000 in
set_option maxRecDepth 100000 in
theorem okX6_spot (l : Launch) (cy : Nat → ClassId) (D : va_G) (B : Nat) (ek : EK) (p1 : Int32) (p2 : Int32) (p3 : Int32) (σ μ ω : Mem) (res : Int32) (h : fX6_spot p1 p2 p3 = some res) : CT l cy D B ek yX6_spot cX6_spot 3 (some .int) ({ frames := 0, cells := 0, slots := 0, locals := 0 } : Room) [.int p1, .int p2, .int p3] σ μ ω (some (.int res)) σ μ ω := by
  refine met_X (own := "HostelBedsModel") (by decide) rfl (Nat.le_of_ble_eq_true rfl) ?_
  intro p e s m args below meth c C hrT hlk
  have hret : ∀ (pc9 : Nat) (lcs9 : List (Nat × Value)), decode cX6_spot pc9 = .ok (.ireturn, 1) → narrow .int (.int res) = .int res → X p l e ({ frames := 0, cells := 0, slots := 0, locals := 0 } : Room) s m args below meth c 3 cy D B 0 0 (MQ below (QR cy D B (some (.int res)) σ μ ω) args s 0 0 (aB B)) pc9 lcs9 [.int res] σ μ ω := fun _ _ hd hn => x_zret C hrT hlk hn hd
  generalize (MQ below (QR cy D B (some (.int res)) σ μ ω) args s 0 0 (aB B)) = Q at hret ⊢
  obtain ⟨R, hR9⟩ : ∃ R : Room, R = ({ frames := 0, cells := 0, slots := 0, locals := 0 } : Room) := ⟨_, rfl⟩
  rw [← hR9] at hret ⊢
  unfold fX6_spot at h
  show X p l e R s m args below meth c 3 cy D B 0 0 Q 0 [(0, .int p1), (1, .int p2), (2, .int p3)] [] σ μ ω
  refine x_bipush C (v := 10) dX6_spot_0 (by decide) ?_
  refine x_iload_n C dX6_spot_2 rfl 0 rfl ?_
  refine x_imul C dX6_spot_3 ?_
  refine x_iload_n C dX6_spot_4 rfl 1 rfl ?_
  refine x_iadd C dX6_spot_5 ?_
  refine x_bipush C (v := 30) dX6_spot_6 (by decide) ?_
  refine x_imul C dX6_spot_8 ?_
  refine x_iload_n C dX6_spot_9 rfl 2 rfl ?_
  refine x_iadd C dX6_spot_10 ?_
  cases h
  exact hret _ _ dX6_spot_11 rfl
def jX6_isFreeFor_38 (a3 : Int32) : Option ((Int32) ⊕ ((Unit) ⊕ (Int32))) := (some (.inl (a3 + (1 : Int32))))
def stX6_isFreeFor_3 (p1 : Int32) (μ : Mem) (p2 : Int32) (p3 : Int32) (a3 : Int32) : Option ((Int32) ⊕ ((Unit) ⊕ (Int32))) := (if (30 : Int32) ≤ a3 then (some (.inr (.inl ()))) else ((fX6_staysIn p1 a3 μ).bind fun q1 => (if q1 = 0 then (jX6_isFreeFor_38 a3) else ((fX6_spot p2 p3 a3).bind fun q2 => (gd (inb q2 2400) (if (rI μ 76 0 q2.toNatClampNeg) = (-1 : Int32) then (jX6_isFreeFor_38 a3) else (some (.inr (.inr ((0 : Int32)))))))))))
def fX6_isFreeFor (p1 : Int32) (p2 : Int32) (p3 : Int32) (μ : Mem) : Option (Int32) := ((loop (stX6_isFreeFor_3 p1 μ p2 p3) 5000 ((0 : Int32))).bind fun b3 => Sum.elim (fun z3 => (some ((1 : Int32)))) (fun w3 => (some w3)) b3)
set_option maxHeartbeats 4000000 in
set_option maxRecDepth 100000 in
theorem okX6_isFreeFor (l : Launch) (cy : Nat → ClassId) (D : va_G) (B : Nat) (ek : EK) (p1 : Int32) (p2 : Int32) (p3 : Int32) (σ μ ω : Mem) (res : Int32) (h : fX6_isFreeFor p1 p2 p3 μ = some res) : CT l cy D B ek yX6_isFreeFor cX6_isFreeFor 5 (some .boolean) ({ frames := 3, cells := 0, slots := 0, locals := 65 } : Room) [.ref (B + oMd), .int p1, .int p2, .int p3] σ μ ω (some (.int res)) σ μ ω := by
  refine met_X (own := "HostelBedsModel") (by decide) rfl (Nat.le_of_ble_eq_true rfl) ?_
  intro p e s m args below meth c C hrT hlk
  have hret : ∀ (pc9 : Nat) (lcs9 : List (Nat × Value)), decode cX6_isFreeFor pc9 = .ok (.ireturn, 1) → narrow .boolean (.int res) = .int res → X p l e ({ frames := 3, cells := 0, slots := 0, locals := 65 } : Room) s m args below meth c 5 cy D B 0 0 (MQ below (QR cy D B (some (.int res)) σ μ ω) args s 0 0 (aB B)) pc9 lcs9 [.int res] σ μ ω := fun _ _ hd hn => x_zret C hrT hlk hn hd
  generalize (MQ below (QR cy D B (some (.int res)) σ μ ω) args s 0 0 (aB B)) = Q at hret ⊢
  obtain ⟨R, hR9⟩ : ∃ R : Room, R = ({ frames := 3, cells := 0, slots := 0, locals := 65 } : Room) := ⟨_, rfl⟩
  rw [← hR9] at hret ⊢
  unfold fX6_isFreeFor at h
  show X p l e R s m args below meth c 5 cy D B 0 0 Q 0 [(0, .ref (B + oMd)), (1, .int p1), (2, .int p2), (3, .int p3)] [] σ μ ω
  refine x_iconst C (v := 0) dX6_isFreeFor_0 (by decide) ?_
  refine x_istore C [(4, .int (0 : Int32)), (0, .ref (B + oMd)), (1, .int p1), (2, .int p2), (3, .int p3)] dX6_isFreeFor_1 (by decide) rfl ?_
  obtain ⟨b3, hk10, h⟩ := Option.bind_eq_some_iff.mp h
  refine x_sub [1, 2, 3, 4, 0] rfl ?_
  refine loop_run (step := stX6_isFreeFor_3 p1 μ p2 p3) (P := fun (a3 : Int32) => X p l e R s m args below meth c 5 cy D B 0 0 Q 3 [(0, .ref (B + oMd)), (1, .int p1), (2, .int p2), (3, .int p3), (4, .int a3)] [] σ μ ω) (K := fun (b3 : (Unit) ⊕ (Int32)) => Sum.elim (fun z3 => X p l e R s m args below meth c 5 cy D B 0 0 Q 44 [] [] σ μ ω) (fun w3 => ∀ (pc9 : Nat) (lcs9 : List (Nat × Value)), decode cX6_isFreeFor pc9 = .ok (.ireturn, 1) → narrow .boolean (.int w3) = .int w3 → X p l e R s m args below meth c 5 cy D B 0 0 Q pc9 lcs9 [.int w3] σ μ ω) b3) ?_ 5000 ((0 : Int32)) b3 hk10 ?_
  · intro a3 r h hA1 hB2
    unfold stX6_isFreeFor_3 at h
    refine x_iload C dX6_isFreeFor_3 4 rfl ?_
    refine x_bipush C (v := 30) dX6_isFreeFor_5 (by decide) ?_
    refine x_icmp_ge C (tgt := 44) dX6_isFreeFor_7 (by decide) (fun hc3 => ?_) (fun hc3 => ?_)
    · rw [if_pos hc3] at h
      cases h
      refine x_sub [] rfl ?_
      exact hB2 (.inl ()) rfl
    · rw [if_neg hc3] at h
      refine x_aload_n C dX6_isFreeFor_10 rfl 0 rfl ?_
      refine x_iload_n C dX6_isFreeFor_11 rfl 1 rfl ?_
      refine x_iload C dX6_isFreeFor_12 4 rfl ?_
      obtain ⟨q1, hk4, h⟩ := Option.bind_eq_some_iff.mp h
      refine x_callV C (As := [.int p1, .int a3]) (rest := []) (lw_g_mk tw_1363 rfl) (lw_g_mk tsel_47 rfl) (c_Md) (C1 := "HostelBedsModel") (T := TX6) (N := 27) (ci := 6) rfl (okX6_staysIn l cy D B ek p1 a3 σ μ ω _ hk4) rfl rfl (by rw [hR9]; decide) (lw_g_mk tw_1364 rfl) (lw_g_mk tw_7 rfl) (by decide) rfl (lw_g_mk tw_1361 rfl) rfl (Nat.le_of_ble_eq_true rfl) dX6_isFreeFor_14 (by rw [hR9]; decide) ?_
      have hJ5 : ∀ (r9 : (Int32) ⊕ ((Unit) ⊕ (Int32))), jX6_isFreeFor_38 a3 = some r9 → (∀ a2, r9 = .inl a2 → (fun (a3 : Int32) => X p l e R s m args below meth c 5 cy D B 0 0 Q 3 [(0, .ref (B + oMd)), (1, .int p1), (2, .int p2), (3, .int p3), (4, .int a3)] [] σ μ ω) a2) → (∀ b2, r9 = .inr b2 → (fun (b3 : (Unit) ⊕ (Int32)) => Sum.elim (fun z3 => X p l e R s m args below meth c 5 cy D B 0 0 Q 44 [] [] σ μ ω) (fun w3 => ∀ (pc9 : Nat) (lcs9 : List (Nat × Value)), decode cX6_isFreeFor pc9 = .ok (.ireturn, 1) → narrow .boolean (.int w3) = .int w3 → X p l e R s m args below meth c 5 cy D B 0 0 Q pc9 lcs9 [.int w3] σ μ ω) b3) b2) → X p l e R s m args below meth c 5 cy D B 0 0 Q 38 [(0, .ref (B + oMd)), (1, .int p1), (2, .int p2), (3, .int p3), (4, .int a3)] [] σ μ ω := by
        intro r h hA1 hB2
        unfold jX6_isFreeFor_38 at h
        refine x_iinc C (k := 4) [(4, .int (a3 + (1 : Int32))), (0, .ref (B + oMd)), (1, .int p1), (2, .int p2), (3, .int p3)] dX6_isFreeFor_38 rfl rfl (by decide) rfl ?_
        refine x_goto C (tgt := 3) dX6_isFreeFor_41 (by decide) ?_
        cases h
        refine x_sub [1, 2, 3, 4, 0] rfl ?_
        exact hA1 (a3 + (1 : Int32)) rfl
      refine x_if_eq C (tgt := 38) dX6_isFreeFor_17 (by decide) (fun hc6 => ?_) (fun hc6 => ?_)
      · rw [if_pos hc6] at h
        exact hJ5 _ h hA1 hB2
      · rw [if_neg hc6] at h
        refine x_aload_n C dX6_isFreeFor_20 rfl 0 rfl ?_
        refine x_get C (C1 := "HostelBedsModel") (T := TX6) (N := 27) (ci := 6) inXg6 _ (c_Md) rfl 21 (by decide) (lw_g_mk tw_1152 rfl) rfl dX6_isFreeFor_21 ?_
        refine x_iload_n C dX6_isFreeFor_24 rfl 2 rfl ?_
        refine x_iload_n C dX6_isFreeFor_25 rfl 3 rfl ?_
        refine x_iload C dX6_isFreeFor_26 4 rfl ?_
        obtain ⟨q2, hk7, h⟩ := Option.bind_eq_some_iff.mp h
        refine x_callS C (As := [.int p2, .int p3, .int a3]) (rest := [.ref (B + oHold)]) (lw_g_mk tw_1482 rfl) (okX6_spot l cy D B ek p2 p3 a3 σ μ ω _ hk7) rfl rfl (by rw [hR9]; decide) (lw_g_mk tw_1483 rfl) (lw_g_mk tw_7 rfl) (by decide) rfl (lw_g_mk tw_1481 rfl) rfl (Nat.le_of_ble_eq_true rfl) dX6_isFreeFor_28 (by rw [hR9]; decide) ?_
        obtain ⟨hg8, h⟩ := gd_some h
        refine x_iald C _ (c_Hold) hg8 dX6_isFreeFor_31 ?_
        refine x_iconst C (v := -1) dX6_isFreeFor_32 (by decide) ?_
        refine x_icmp_eq C (tgt := 38) dX6_isFreeFor_33 (by decide) (fun hc9 => ?_) (fun hc9 => ?_)
        · rw [if_pos hc9] at h
          exact hJ5 _ h hA1 hB2
        · rw [if_neg hc9] at h
          refine x_iconst C (v := 0) dX6_isFreeFor_36 (by decide) ?_
          cases h
          exact hB2 (.inr ((0 : Int32))) rfl _ _ dX6_isFreeFor_37 (nar_Z (Or.inl rfl))
  · rcases b3 with z3 | w3
    · rw [Sum.elim_inl] at h
      show X p l e R s m args below meth c 5 cy D B 0 0 Q 44 [] [] σ μ ω
      refine x_iconst C (v := 1) dX6_isFreeFor_44 (by decide) ?_
      cases h
      exact hret _ _ dX6_isFreeFor_45 (nar_Z (Or.inr rfl))
    · rw [Sum.elim_inr] at h
      show ∀ (pc9 : Nat) (lcs9 : List (Nat × Value)), decode cX6_isFreeFor pc9 = .ok (.ireturn, 1) → narrow .boolean (.int w3) = .int w3 → X p l e R s m args below meth c 5 cy D B 0 0 Q pc9 lcs9 [.int w3] σ μ ω
      cases h
      exact hret
def jX6_freeFor_33 (a5 : Int32 × Int32) (t3 : Int32) : Option ((Int32 × Int32) ⊕ (Int32)) := (some (.inl (a5.1 + t3, a5.2 + (1 : Int32))))
def stX6_freeFor_5 (p2 : Int32) (μ : Mem) (p1 : Int32) (a5 : Int32 × Int32) : Option ((Int32 × Int32) ⊕ (Int32)) := ((fX6_roomIs p2 (1 : Int32) μ).bind fun q1 => (if q1 ≤ a5.2 then (some (.inr a5.1)) else ((fX6_isFreeFor p1 p2 a5.2 μ).bind fun q2 => (if q2 = 0 then (jX6_freeFor_33 a5 (0 : Int32)) else (jX6_freeFor_33 a5 (1 : Int32))))))
def fX6_freeFor (p1 : Int32) (p2 : Int32) (μ : Mem) : Option (Int32) := ((loop (stX6_freeFor_5 p2 μ p1) 5000 ((0 : Int32), (0 : Int32))).bind fun b5 => (some b5))
set_option maxHeartbeats 4000000 in
set_option maxRecDepth 100000 in
theorem okX6_freeFor (l : Launch) (cy : Nat → ClassId) (D : va_G) (B : Nat) (ek : EK) (p1 : Int32) (p2 : Int32) (σ μ ω : Mem) (res : Int32) (h : fX6_freeFor p1 p2 μ = some res) : CT l cy D B ek yX6_freeFor cX6_freeFor 5 (some .int) ({ frames := 4, cells := 0, slots := 0, locals := 89 } : Room) [.ref (B + oMd), .int p1, .int p2] σ μ ω (some (.int res)) σ μ ω := by
  refine met_X (own := "HostelBedsModel") (by decide) rfl (Nat.le_of_ble_eq_true rfl) ?_
  intro p e s m args below meth c C hrT hlk
  have hret : ∀ (pc9 : Nat) (lcs9 : List (Nat × Value)), decode cX6_freeFor pc9 = .ok (.ireturn, 1) → narrow .int (.int res) = .int res → X p l e ({ frames := 4, cells := 0, slots := 0, locals := 89 } : Room) s m args below meth c 5 cy D B 0 0 (MQ below (QR cy D B (some (.int res)) σ μ ω) args s 0 0 (aB B)) pc9 lcs9 [.int res] σ μ ω := fun _ _ hd hn => x_zret C hrT hlk hn hd
  generalize (MQ below (QR cy D B (some (.int res)) σ μ ω) args s 0 0 (aB B)) = Q at hret ⊢
  obtain ⟨R, hR9⟩ : ∃ R : Room, R = ({ frames := 4, cells := 0, slots := 0, locals := 89 } : Room) := ⟨_, rfl⟩
  rw [← hR9] at hret ⊢
  unfold fX6_freeFor at h
  show X p l e R s m args below meth c 5 cy D B 0 0 Q 0 [(0, .ref (B + oMd)), (1, .int p1), (2, .int p2)] [] σ μ ω
  refine x_iconst C (v := 0) dX6_freeFor_0 (by decide) ?_
  refine x_istore_n C [(3, .int (0 : Int32)), (0, .ref (B + oMd)), (1, .int p1), (2, .int p2)] dX6_freeFor_1 rfl (by decide) rfl ?_
  refine x_iconst C (v := 0) dX6_freeFor_2 (by decide) ?_
  refine x_istore C [(4, .int (0 : Int32)), (3, .int (0 : Int32)), (0, .ref (B + oMd)), (1, .int p1), (2, .int p2)] dX6_freeFor_3 (by decide) rfl ?_
  obtain ⟨b5, hk8, h⟩ := Option.bind_eq_some_iff.mp h
  refine x_sub [2, 3, 4, 1, 0] rfl ?_
  refine loop_run (step := stX6_freeFor_5 p2 μ p1) (P := fun (a5 : Int32 × Int32) => X p l e R s m args below meth c 5 cy D B 0 0 Q 5 [(0, .ref (B + oMd)), (1, .int p1), (2, .int p2), (3, .int a5.1), (4, .int a5.2)] [] σ μ ω) (K := fun (b5 : Int32) => X p l e R s m args below meth c 5 cy D B 0 0 Q 41 [(3, .int b5)] [] σ μ ω) ?_ 5000 ((0 : Int32), (0 : Int32)) b5 hk8 ?_
  · intro a5 r h hA1 hB2
    unfold stX6_freeFor_5 at h
    refine x_iload C dX6_freeFor_5 4 rfl ?_
    refine x_aload_n C dX6_freeFor_7 rfl 0 rfl ?_
    refine x_iload_n C dX6_freeFor_8 rfl 2 rfl ?_
    refine x_iconst C (v := 1) dX6_freeFor_9 (by decide) ?_
    obtain ⟨q1, hk3, h⟩ := Option.bind_eq_some_iff.mp h
    refine x_callV C (As := [.int p2, .int (1 : Int32)]) (rest := [.int a5.2]) (lw_g_mk tw_1359 rfl) (lw_g_mk tsel_46 rfl) (c_Md) (C1 := "HostelBedsModel") (T := TX6) (N := 27) (ci := 6) rfl (okX6_roomIs l cy D B ek p2 (1 : Int32) σ μ ω _ hk3) rfl rfl (by rw [hR9]; decide) (lw_g_mk tw_1360 rfl) (lw_g_mk tw_7 rfl) (by decide) rfl (lw_g_mk tw_1357 rfl) rfl (Nat.le_of_ble_eq_true rfl) dX6_freeFor_10 (by rw [hR9]; decide) ?_
    refine x_icmp_ge C (tgt := 41) dX6_freeFor_13 (by decide) (fun hc4 => ?_) (fun hc4 => ?_)
    · rw [if_pos hc4] at h
      cases h
      refine x_sub [3] rfl ?_
      exact hB2 a5.1 rfl
    · rw [if_neg hc4] at h
      refine x_iload_n C dX6_freeFor_16 rfl 3 rfl ?_
      refine x_aload_n C dX6_freeFor_17 rfl 0 rfl ?_
      refine x_iload_n C dX6_freeFor_18 rfl 1 rfl ?_
      refine x_iload_n C dX6_freeFor_19 rfl 2 rfl ?_
      refine x_iload C dX6_freeFor_20 4 rfl ?_
      obtain ⟨q2, hk5, h⟩ := Option.bind_eq_some_iff.mp h
      refine x_callV C (As := [.int p1, .int p2, .int a5.2]) (rest := [.int a5.1]) (lw_g_mk tw_1479 rfl) (lw_g_mk tsel_67 rfl) (c_Md) (C1 := "HostelBedsModel") (T := TX6) (N := 27) (ci := 6) rfl (okX6_isFreeFor l cy D B ek p1 p2 a5.2 σ μ ω _ hk5) rfl rfl (by rw [hR9]; decide) (lw_g_mk tw_1480 rfl) (lw_g_mk tw_7 rfl) (by decide) rfl (lw_g_mk tw_1477 rfl) rfl (Nat.le_of_ble_eq_true rfl) dX6_freeFor_22 (by rw [hR9]; decide) ?_
      have hJ6 : ∀ (t3 : Int32) (r9 : (Int32 × Int32) ⊕ (Int32)), jX6_freeFor_33 a5 t3 = some r9 → (∀ a2, r9 = .inl a2 → (fun (a5 : Int32 × Int32) => X p l e R s m args below meth c 5 cy D B 0 0 Q 5 [(0, .ref (B + oMd)), (1, .int p1), (2, .int p2), (3, .int a5.1), (4, .int a5.2)] [] σ μ ω) a2) → (∀ b2, r9 = .inr b2 → (fun (b5 : Int32) => X p l e R s m args below meth c 5 cy D B 0 0 Q 41 [(3, .int b5)] [] σ μ ω) b2) → X p l e R s m args below meth c 5 cy D B 0 0 Q 33 [(0, .ref (B + oMd)), (1, .int p1), (2, .int p2), (4, .int a5.2)] [.int t3, .int a5.1] σ μ ω := by
        intro t3 r h hA1 hB2
        unfold jX6_freeFor_33 at h
        refine x_iadd C dX6_freeFor_33 ?_
        refine x_istore_n C [(3, .int (a5.1 + t3)), (0, .ref (B + oMd)), (1, .int p1), (2, .int p2), (4, .int a5.2)] dX6_freeFor_34 rfl (by decide) rfl ?_
        refine x_iinc C (k := 4) [(4, .int (a5.2 + (1 : Int32))), (3, .int (a5.1 + t3)), (0, .ref (B + oMd)), (1, .int p1), (2, .int p2)] dX6_freeFor_35 rfl rfl (by decide) rfl ?_
        refine x_goto C (tgt := 5) dX6_freeFor_38 (by decide) ?_
        cases h
        refine x_sub [2, 3, 4, 1, 0] rfl ?_
        exact hA1 (a5.1 + t3, a5.2 + (1 : Int32)) rfl
      refine x_if_eq C (tgt := 32) dX6_freeFor_25 (by decide) (fun hc7 => ?_) (fun hc7 => ?_)
      · rw [if_pos hc7] at h
        refine x_iconst C (v := 0) dX6_freeFor_32 (by decide) ?_
        refine x_sub [0, 1, 2, 4] rfl ?_
        exact hJ6 (0 : Int32) _ h hA1 hB2
      · rw [if_neg hc7] at h
        refine x_iconst C (v := 1) dX6_freeFor_28 (by decide) ?_
        refine x_goto C (tgt := 33) dX6_freeFor_29 (by decide) ?_
        refine x_sub [0, 1, 2, 4] rfl ?_
        exact hJ6 (1 : Int32) _ h hA1 hB2
  · show X p l e R s m args below meth c 5 cy D B 0 0 Q 41 [(3, .int b5)] [] σ μ ω
    refine x_iload_n C dX6_freeFor_41 rfl 0 rfl ?_
    cases h
    exact hret _ _ dX6_freeFor_42 rfl
def fX6_canUse (p1 : Int32) (p2 : Int32) (μ : Mem) : Option (Int32) := ((fX6_of p1 (4 : Int32) μ).bind fun q1 => ((fX6_roomIs p2 (2 : Int32) μ).bind fun q2 => (if q1 < q2 then (some ((0 : Int32))) else (some ((1 : Int32))))))
set_option maxHeartbeats 4000000 in
set_option maxRecDepth 100000 in
theorem okX6_canUse (l : Launch) (cy : Nat → ClassId) (D : va_G) (B : Nat) (ek : EK) (p1 : Int32) (p2 : Int32) (σ μ ω : Mem) (res : Int32) (h : fX6_canUse p1 p2 μ = some res) : CT l cy D B ek yX6_canUse cX6_canUse 3 (some .boolean) ({ frames := 2, cells := 0, slots := 0, locals := 43 } : Room) [.ref (B + oMd), .int p1, .int p2] σ μ ω (some (.int res)) σ μ ω := by
  refine met_X (own := "HostelBedsModel") (by decide) rfl (Nat.le_of_ble_eq_true rfl) ?_
  intro p e s m args below meth c C hrT hlk
  have hret : ∀ (pc9 : Nat) (lcs9 : List (Nat × Value)), decode cX6_canUse pc9 = .ok (.ireturn, 1) → narrow .boolean (.int res) = .int res → X p l e ({ frames := 2, cells := 0, slots := 0, locals := 43 } : Room) s m args below meth c 3 cy D B 0 0 (MQ below (QR cy D B (some (.int res)) σ μ ω) args s 0 0 (aB B)) pc9 lcs9 [.int res] σ μ ω := fun _ _ hd hn => x_zret C hrT hlk hn hd
  generalize (MQ below (QR cy D B (some (.int res)) σ μ ω) args s 0 0 (aB B)) = Q at hret ⊢
  obtain ⟨R, hR9⟩ : ∃ R : Room, R = ({ frames := 2, cells := 0, slots := 0, locals := 43 } : Room) := ⟨_, rfl⟩
  rw [← hR9] at hret ⊢
  unfold fX6_canUse at h
  show X p l e R s m args below meth c 3 cy D B 0 0 Q 0 [(0, .ref (B + oMd)), (1, .int p1), (2, .int p2)] [] σ μ ω
  refine x_aload_n C dX6_canUse_0 rfl 0 rfl ?_
  refine x_iload_n C dX6_canUse_1 rfl 1 rfl ?_
  refine x_iconst C (v := 4) dX6_canUse_2 (by decide) ?_
  obtain ⟨q1, hk1, h⟩ := Option.bind_eq_some_iff.mp h
  refine x_callV C (As := [.int p1, .int (4 : Int32)]) (rest := []) (lw_g_mk tw_1367 rfl) (lw_g_mk tsel_48 rfl) (c_Md) (C1 := "HostelBedsModel") (T := TX6) (N := 27) (ci := 6) rfl (okX6_of l cy D B ek p1 (4 : Int32) σ μ ω _ hk1) rfl rfl (by rw [hR9]; decide) (lw_g_mk tw_1368 rfl) (lw_g_mk tw_7 rfl) (by decide) rfl (lw_g_mk tw_1365 rfl) rfl (Nat.le_of_ble_eq_true rfl) dX6_canUse_3 (by rw [hR9]; decide) ?_
  refine x_aload_n C dX6_canUse_6 rfl 0 rfl ?_
  refine x_iload_n C dX6_canUse_7 rfl 2 rfl ?_
  refine x_iconst C (v := 2) dX6_canUse_8 (by decide) ?_
  obtain ⟨q2, hk2, h⟩ := Option.bind_eq_some_iff.mp h
  refine x_callV C (As := [.int p2, .int (2 : Int32)]) (rest := [.int q1]) (lw_g_mk tw_1359 rfl) (lw_g_mk tsel_46 rfl) (c_Md) (C1 := "HostelBedsModel") (T := TX6) (N := 27) (ci := 6) rfl (okX6_roomIs l cy D B ek p2 (2 : Int32) σ μ ω _ hk2) rfl rfl (by rw [hR9]; decide) (lw_g_mk tw_1360 rfl) (lw_g_mk tw_7 rfl) (by decide) rfl (lw_g_mk tw_1357 rfl) rfl (Nat.le_of_ble_eq_true rfl) dX6_canUse_9 (by rw [hR9]; decide) ?_
  refine x_icmp_lt C (tgt := 19) dX6_canUse_12 (by decide) (fun hc3 => ?_) (fun hc3 => ?_)
  · rw [if_pos hc3] at h
    refine x_iconst C (v := 0) dX6_canUse_19 (by decide) ?_
    cases h
    exact hret _ _ dX6_canUse_20 (nar_Z (Or.inl rfl))
  · rw [if_neg hc3] at h
    refine x_iconst C (v := 1) dX6_canUse_15 (by decide) ?_
    refine x_goto C (tgt := 20) dX6_canUse_16 (by decide) ?_
    cases h
    exact hret _ _ dX6_canUse_20 (nar_Z (Or.inr rfl))
def jX6_takesAll_39 : Option (Int32) := (some ((1 : Int32)))
def jX6_takesAll_43 : Option (Int32) := (some ((0 : Int32)))
def jX6_takesAll_25 (q1 : Int32) (p1 : Int32) (μ : Mem) : Option (Int32) := (if ¬ q1 = (2 : Int32) then (jX6_takesAll_43) else ((fX6_of p1 (2 : Int32) μ).bind fun q2 => (if ¬ q2 = 0 then (jX6_takesAll_43) else (jX6_takesAll_39))))
def fX6_takesAll (p1 : Int32) (p2 : Int32) (μ : Mem) : Option (Int32) := ((fX6_roomIs p2 (0 : Int32) μ).bind fun q1 => (if q1 = 0 then (jX6_takesAll_39) else (if ¬ q1 = (1 : Int32) then (jX6_takesAll_25 q1 p1 μ) else ((fX6_of p1 (3 : Int32) μ).bind fun q3 => (if q3 = 0 then (jX6_takesAll_39) else (jX6_takesAll_25 q1 p1 μ))))))
set_option maxHeartbeats 4000000 in
set_option maxRecDepth 100000 in
theorem okX6_takesAll (l : Launch) (cy : Nat → ClassId) (D : va_G) (B : Nat) (ek : EK) (p1 : Int32) (p2 : Int32) (σ μ ω : Mem) (res : Int32) (h : fX6_takesAll p1 p2 μ = some res) : CT l cy D B ek yX6_takesAll cX6_takesAll 4 (some .boolean) ({ frames := 2, cells := 0, slots := 0, locals := 43 } : Room) [.ref (B + oMd), .int p1, .int p2] σ μ ω (some (.int res)) σ μ ω := by
  refine met_X (own := "HostelBedsModel") (by decide) rfl (Nat.le_of_ble_eq_true rfl) ?_
  intro p e s m args below meth c C hrT hlk
  have hret : ∀ (pc9 : Nat) (lcs9 : List (Nat × Value)), decode cX6_takesAll pc9 = .ok (.ireturn, 1) → narrow .boolean (.int res) = .int res → X p l e ({ frames := 2, cells := 0, slots := 0, locals := 43 } : Room) s m args below meth c 4 cy D B 0 0 (MQ below (QR cy D B (some (.int res)) σ μ ω) args s 0 0 (aB B)) pc9 lcs9 [.int res] σ μ ω := fun _ _ hd hn => x_zret C hrT hlk hn hd
  generalize (MQ below (QR cy D B (some (.int res)) σ μ ω) args s 0 0 (aB B)) = Q at hret ⊢
  obtain ⟨R, hR9⟩ : ∃ R : Room, R = ({ frames := 2, cells := 0, slots := 0, locals := 43 } : Room) := ⟨_, rfl⟩
  rw [← hR9] at hret ⊢
  unfold fX6_takesAll at h
  show X p l e R s m args below meth c 4 cy D B 0 0 Q 0 [(0, .ref (B + oMd)), (1, .int p1), (2, .int p2)] [] σ μ ω
  refine x_aload_n C dX6_takesAll_0 rfl 0 rfl ?_
  refine x_iload_n C dX6_takesAll_1 rfl 2 rfl ?_
  refine x_iconst C (v := 0) dX6_takesAll_2 (by decide) ?_
  obtain ⟨q1, hk1, h⟩ := Option.bind_eq_some_iff.mp h
  refine x_callV C (As := [.int p2, .int (0 : Int32)]) (rest := []) (lw_g_mk tw_1359 rfl) (lw_g_mk tsel_46 rfl) (c_Md) (C1 := "HostelBedsModel") (T := TX6) (N := 27) (ci := 6) rfl (okX6_roomIs l cy D B ek p2 (0 : Int32) σ μ ω _ hk1) rfl rfl (by rw [hR9]; decide) (lw_g_mk tw_1360 rfl) (lw_g_mk tw_7 rfl) (by decide) rfl (lw_g_mk tw_1357 rfl) rfl (Nat.le_of_ble_eq_true rfl) dX6_takesAll_3 (by rw [hR9]; decide) ?_
  refine x_istore_n C [(3, .int q1), (0, .ref (B + oMd)), (1, .int p1), (2, .int p2)] dX6_takesAll_6 rfl (by decide) rfl ?_
  refine x_iload_n C dX6_takesAll_7 rfl 0 rfl ?_
  have hJ2 : ∀ (r9 : Int32), jX6_takesAll_39 = some r9 → (∀ (pc9 : Nat) (lcs9 : List (Nat × Value)), decode cX6_takesAll pc9 = .ok (.ireturn, 1) → narrow .boolean (.int r9) = .int r9 → X p l e R s m args below meth c 4 cy D B 0 0 Q pc9 lcs9 [.int r9] σ μ ω) → X p l e R s m args below meth c 4 cy D B 0 0 Q 39 [] [] σ μ ω := by
    intro res9 h hret
    unfold jX6_takesAll_39 at h
    refine x_iconst C (v := 1) dX6_takesAll_39 (by decide) ?_
    refine x_goto C (tgt := 44) dX6_takesAll_40 (by decide) ?_
    cases h
    exact hret _ _ dX6_takesAll_44 (nar_Z (Or.inr rfl))
  refine x_if_eq C (tgt := 39) dX6_takesAll_8 (by decide) (fun hc3 => ?_) (fun hc3 => ?_)
  · rw [if_pos hc3] at h
    refine x_sub [] rfl ?_
    exact hJ2 _ h hret
  · rw [if_neg hc3] at h
    refine x_iload_n C dX6_takesAll_11 rfl 0 rfl ?_
    refine x_iconst C (v := 1) dX6_takesAll_12 (by decide) ?_
    have hJ8 : ∀ (r9 : Int32), jX6_takesAll_25 q1 p1 μ = some r9 → (∀ (pc9 : Nat) (lcs9 : List (Nat × Value)), decode cX6_takesAll pc9 = .ok (.ireturn, 1) → narrow .boolean (.int r9) = .int r9 → X p l e R s m args below meth c 4 cy D B 0 0 Q pc9 lcs9 [.int r9] σ μ ω) → X p l e R s m args below meth c 4 cy D B 0 0 Q 25 [(0, .ref (B + oMd)), (1, .int p1), (3, .int q1)] [] σ μ ω := by
      intro res9 h hret
      unfold jX6_takesAll_25 at h
      refine x_iload_n C dX6_takesAll_25 rfl 2 rfl ?_
      refine x_iconst C (v := 2) dX6_takesAll_26 (by decide) ?_
      have hJ4 : ∀ (r9 : Int32), jX6_takesAll_43 = some r9 → (∀ (pc9 : Nat) (lcs9 : List (Nat × Value)), decode cX6_takesAll pc9 = .ok (.ireturn, 1) → narrow .boolean (.int r9) = .int r9 → X p l e R s m args below meth c 4 cy D B 0 0 Q pc9 lcs9 [.int r9] σ μ ω) → X p l e R s m args below meth c 4 cy D B 0 0 Q 43 [] [] σ μ ω := by
        intro res9 h hret
        unfold jX6_takesAll_43 at h
        refine x_iconst C (v := 0) dX6_takesAll_43 (by decide) ?_
        cases h
        exact hret _ _ dX6_takesAll_44 (nar_Z (Or.inl rfl))
      refine x_icmp_ne C (tgt := 43) dX6_takesAll_27 (by decide) (fun hc5 => ?_) (fun hc5 => ?_)
      · rw [if_pos hc5] at h
        refine x_sub [] rfl ?_
        exact hJ4 _ h hret
      · rw [if_neg hc5] at h
        refine x_aload_n C dX6_takesAll_30 rfl 0 rfl ?_
        refine x_iload_n C dX6_takesAll_31 rfl 1 rfl ?_
        refine x_iconst C (v := 2) dX6_takesAll_32 (by decide) ?_
        obtain ⟨q2, hk6, h⟩ := Option.bind_eq_some_iff.mp h
        refine x_callV C (As := [.int p1, .int (2 : Int32)]) (rest := []) (lw_g_mk tw_1367 rfl) (lw_g_mk tsel_48 rfl) (c_Md) (C1 := "HostelBedsModel") (T := TX6) (N := 27) (ci := 6) rfl (okX6_of l cy D B ek p1 (2 : Int32) σ μ ω _ hk6) rfl rfl (by rw [hR9]; decide) (lw_g_mk tw_1368 rfl) (lw_g_mk tw_7 rfl) (by decide) rfl (lw_g_mk tw_1365 rfl) rfl (Nat.le_of_ble_eq_true rfl) dX6_takesAll_33 (by rw [hR9]; decide) ?_
        refine x_if_ne C (tgt := 43) dX6_takesAll_36 (by decide) (fun hc7 => ?_) (fun hc7 => ?_)
        · rw [if_pos hc7] at h
          refine x_sub [] rfl ?_
          exact hJ4 _ h hret
        · rw [if_neg hc7] at h
          refine x_sub [] rfl ?_
          exact hJ2 _ h hret
    refine x_icmp_ne C (tgt := 25) dX6_takesAll_13 (by decide) (fun hc9 => ?_) (fun hc9 => ?_)
    · rw [if_pos hc9] at h
      refine x_sub [1, 2, 0] rfl ?_
      exact hJ8 _ h hret
    · rw [if_neg hc9] at h
      refine x_aload_n C dX6_takesAll_16 rfl 1 rfl ?_
      refine x_iload_n C dX6_takesAll_17 rfl 2 rfl ?_
      refine x_iconst C (v := 3) dX6_takesAll_18 (by decide) ?_
      obtain ⟨q3, hk10, h⟩ := Option.bind_eq_some_iff.mp h
      refine x_callV C (As := [.int p1, .int (3 : Int32)]) (rest := []) (lw_g_mk tw_1367 rfl) (lw_g_mk tsel_48 rfl) (c_Md) (C1 := "HostelBedsModel") (T := TX6) (N := 27) (ci := 6) rfl (okX6_of l cy D B ek p1 (3 : Int32) σ μ ω _ hk10) rfl rfl (by rw [hR9]; decide) (lw_g_mk tw_1368 rfl) (lw_g_mk tw_7 rfl) (by decide) rfl (lw_g_mk tw_1365 rfl) rfl (Nat.le_of_ble_eq_true rfl) dX6_takesAll_19 (by rw [hR9]; decide) ?_
      refine x_if_eq C (tgt := 39) dX6_takesAll_22 (by decide) (fun hc11 => ?_) (fun hc11 => ?_)
      · rw [if_pos hc11] at h
        refine x_sub [] rfl ?_
        exact hJ2 _ h hret
      · rw [if_neg hc11] at h
        refine x_sub [1, 2, 0] rfl ?_
        exact hJ8 _ h hret
def jX6_oneRoomFor_116 (a7 : Int32 × Int32 × Int32) (x3 : Int32) (x4 : Int32) : Option ((Int32 × Int32 × Int32) ⊕ (Int32)) := (some (.inl (x3, x4, a7.2.2 + (1 : Int32))))
def jX6_oneRoomFor_100 (a7 : Int32 × Int32 × Int32) (q6 : Int32) (t8 : Int32) : Option ((Int32 × Int32 × Int32) ⊕ (Int32)) := (if ¬ t8 = 0 then (jX6_oneRoomFor_116 a7 a7.2.2 q6) else (jX6_oneRoomFor_116 a7 a7.1 a7.2.1))
def jX6_oneRoomFor_95 (a7 : Int32 × Int32 × Int32) (q6 : Int32) : Option ((Int32 × Int32 × Int32) ⊕ (Int32)) := (jX6_oneRoomFor_100 a7 q6 (1 : Int32))
def jX6_oneRoomFor_99 (a7 : Int32 × Int32 × Int32) (q6 : Int32) : Option ((Int32 × Int32 × Int32) ⊕ (Int32)) := (jX6_oneRoomFor_100 a7 q6 (0 : Int32))
def stX6_oneRoomFor_7 (μ : Mem) (p1 : Int32) (a7 : Int32 × Int32 × Int32) : Option ((Int32 × Int32 × Int32) ⊕ (Int32)) := ((fX6_get (4 : Int32) μ).bind fun q1 => (if q1 ≤ a7.2.2 then (some (.inr a7.1)) else ((fX6_canUse p1 a7.2.2 μ).bind fun q2 => (if q2 = 0 then (jX6_oneRoomFor_116 a7 a7.1 a7.2.1) else ((fX6_takesAll p1 a7.2.2 μ).bind fun q5 => (if ¬ q5 = 0 then ((fX6_freeFor p1 a7.2.2 μ).bind fun q6 => ((fX6_persons p1 μ).bind fun q7 => (if q7 ≤ q6 then (if a7.1 = (-1 : Int32) then (jX6_oneRoomFor_95 a7 q6) else (if q6 < a7.2.1 then (jX6_oneRoomFor_95 a7 q6) else (if ¬ q6 = a7.2.1 then (jX6_oneRoomFor_99 a7 q6) else ((fX6_roomIs a7.2.2 (3 : Int32) μ).bind fun q9 => ((fX6_roomIs a7.1 (3 : Int32) μ).bind fun q10 => (if q10 ≤ q9 then (jX6_oneRoomFor_99 a7 q6) else (jX6_oneRoomFor_95 a7 q6))))))) else (jX6_oneRoomFor_116 a7 a7.1 a7.2.1)))) else (jX6_oneRoomFor_116 a7 a7.1 a7.2.1)))))))
def fX6_oneRoomFor (p1 : Int32) (μ : Mem) : Option (Int32) := ((loop (stX6_oneRoomFor_7 μ p1) 5000 ((-1 : Int32), (0 : Int32), (0 : Int32))).bind fun b7 => (some b7))
set_option maxHeartbeats 4000000 in
set_option maxRecDepth 100000 in
theorem okX6_oneRoomFor (l : Launch) (cy : Nat → ClassId) (D : va_G) (B : Nat) (ek : EK) (p1 : Int32) (σ μ ω : Mem) (res : Int32) (h : fX6_oneRoomFor p1 μ = some res) : CT l cy D B ek yX6_oneRoomFor cX6_oneRoomFor 7 (some .int) ({ frames := 5, cells := 0, slots := 0, locals := 113 } : Room) [.ref (B + oMd), .int p1] σ μ ω (some (.int res)) σ μ ω := by
  refine met_X (own := "HostelBedsModel") (by decide) rfl (Nat.le_of_ble_eq_true rfl) ?_
  intro p e s m args below meth c C hrT hlk
  have hret : ∀ (pc9 : Nat) (lcs9 : List (Nat × Value)), decode cX6_oneRoomFor pc9 = .ok (.ireturn, 1) → narrow .int (.int res) = .int res → X p l e ({ frames := 5, cells := 0, slots := 0, locals := 113 } : Room) s m args below meth c 7 cy D B 0 0 (MQ below (QR cy D B (some (.int res)) σ μ ω) args s 0 0 (aB B)) pc9 lcs9 [.int res] σ μ ω := fun _ _ hd hn => x_zret C hrT hlk hn hd
  generalize (MQ below (QR cy D B (some (.int res)) σ μ ω) args s 0 0 (aB B)) = Q at hret ⊢
  obtain ⟨R, hR9⟩ : ∃ R : Room, R = ({ frames := 5, cells := 0, slots := 0, locals := 113 } : Room) := ⟨_, rfl⟩
  rw [← hR9] at hret ⊢
  unfold fX6_oneRoomFor at h
  show X p l e R s m args below meth c 7 cy D B 0 0 Q 0 [(0, .ref (B + oMd)), (1, .int p1)] [] σ μ ω
  refine x_iconst C (v := -1) dX6_oneRoomFor_0 (by decide) ?_
  refine x_istore_n C [(2, .int (-1 : Int32)), (0, .ref (B + oMd)), (1, .int p1)] dX6_oneRoomFor_1 rfl (by decide) rfl ?_
  refine x_iconst C (v := 0) dX6_oneRoomFor_2 (by decide) ?_
  refine x_istore_n C [(3, .int (0 : Int32)), (2, .int (-1 : Int32)), (0, .ref (B + oMd)), (1, .int p1)] dX6_oneRoomFor_3 rfl (by decide) rfl ?_
  refine x_iconst C (v := 0) dX6_oneRoomFor_4 (by decide) ?_
  refine x_istore C [(4, .int (0 : Int32)), (3, .int (0 : Int32)), (2, .int (-1 : Int32)), (0, .ref (B + oMd)), (1, .int p1)] dX6_oneRoomFor_5 (by decide) rfl ?_
  obtain ⟨b7, hk23, h⟩ := Option.bind_eq_some_iff.mp h
  refine x_sub [3, 4, 2, 1, 0] rfl ?_
  refine loop_run (step := stX6_oneRoomFor_7 μ p1) (P := fun (a7 : Int32 × Int32 × Int32) => X p l e R s m args below meth c 7 cy D B 0 0 Q 7 [(0, .ref (B + oMd)), (1, .int p1), (2, .int a7.1), (3, .int a7.2.1), (4, .int a7.2.2)] [] σ μ ω) (K := fun (b7 : Int32) => X p l e R s m args below meth c 7 cy D B 0 0 Q 122 [(2, .int b7)] [] σ μ ω) ?_ 5000 ((-1 : Int32), (0 : Int32), (0 : Int32)) b7 hk23 ?_
  · intro a7 r h hA1 hB2
    unfold stX6_oneRoomFor_7 at h
    refine x_iload C dX6_oneRoomFor_7 4 rfl ?_
    refine x_aload_n C dX6_oneRoomFor_9 rfl 0 rfl ?_
    refine x_iconst C (v := 4) dX6_oneRoomFor_10 (by decide) ?_
    obtain ⟨q1, hk3, h⟩ := Option.bind_eq_some_iff.mp h
    refine x_callV C (As := [.int (4 : Int32)]) (rest := [.int a7.2.2]) (lw_g_mk tw_1296 rfl) (lw_g_mk tsel_31 rfl) (c_Md) (C1 := "HostelBedsModel") (T := TX6) (N := 27) (ci := 6) rfl (okX6_get l cy D B ek (4 : Int32) σ μ ω _ hk3) rfl rfl (by rw [hR9]; decide) (lw_g_mk tw_1297 rfl) (lw_g_mk tw_7 rfl) (by decide) rfl (lw_g_mk tw_1294 rfl) rfl (Nat.le_of_ble_eq_true rfl) dX6_oneRoomFor_11 (by rw [hR9]; decide) ?_
    refine x_icmp_ge C (tgt := 122) dX6_oneRoomFor_14 (by decide) (fun hc4 => ?_) (fun hc4 => ?_)
    · rw [if_pos hc4] at h
      cases h
      refine x_sub [2] rfl ?_
      exact hB2 a7.1 rfl
    · rw [if_neg hc4] at h
      refine x_aload_n C dX6_oneRoomFor_17 rfl 0 rfl ?_
      refine x_iload_n C dX6_oneRoomFor_18 rfl 1 rfl ?_
      refine x_iload C dX6_oneRoomFor_19 4 rfl ?_
      obtain ⟨q2, hk5, h⟩ := Option.bind_eq_some_iff.mp h
      refine x_callV C (As := [.int p1, .int a7.2.2]) (rest := []) (lw_g_mk tw_1467 rfl) (lw_g_mk tsel_64 rfl) (c_Md) (C1 := "HostelBedsModel") (T := TX6) (N := 27) (ci := 6) rfl (okX6_canUse l cy D B ek p1 a7.2.2 σ μ ω _ hk5) rfl rfl (by rw [hR9]; decide) (lw_g_mk tw_1468 rfl) (lw_g_mk tw_7 rfl) (by decide) rfl (lw_g_mk tw_1465 rfl) rfl (Nat.le_of_ble_eq_true rfl) dX6_oneRoomFor_21 (by rw [hR9]; decide) ?_
      have hJ6 : ∀ (x3 : Int32) (x4 : Int32) (r9 : (Int32 × Int32 × Int32) ⊕ (Int32)), jX6_oneRoomFor_116 a7 x3 x4 = some r9 → (∀ a2, r9 = .inl a2 → (fun (a7 : Int32 × Int32 × Int32) => X p l e R s m args below meth c 7 cy D B 0 0 Q 7 [(0, .ref (B + oMd)), (1, .int p1), (2, .int a7.1), (3, .int a7.2.1), (4, .int a7.2.2)] [] σ μ ω) a2) → (∀ b2, r9 = .inr b2 → (fun (b7 : Int32) => X p l e R s m args below meth c 7 cy D B 0 0 Q 122 [(2, .int b7)] [] σ μ ω) b2) → X p l e R s m args below meth c 7 cy D B 0 0 Q 116 [(0, .ref (B + oMd)), (1, .int p1), (2, .int x3), (3, .int x4), (4, .int a7.2.2)] [] σ μ ω := by
        intro x3 x4 r h hA1 hB2
        unfold jX6_oneRoomFor_116 at h
        refine x_iinc C (k := 4) [(4, .int (a7.2.2 + (1 : Int32))), (0, .ref (B + oMd)), (1, .int p1), (2, .int x3), (3, .int x4)] dX6_oneRoomFor_116 rfl rfl (by decide) rfl ?_
        refine x_goto C (tgt := 7) dX6_oneRoomFor_119 (by decide) ?_
        cases h
        refine x_sub [1, 2, 3, 4, 0] rfl ?_
        exact hA1 (x3, x4, a7.2.2 + (1 : Int32)) rfl
      refine x_if_eq C (tgt := 116) dX6_oneRoomFor_24 (by decide) (fun hc7 => ?_) (fun hc7 => ?_)
      · rw [if_pos hc7] at h
        exact hJ6 a7.1 a7.2.1 _ h hA1 hB2
      · rw [if_neg hc7] at h
        refine x_aload_n C dX6_oneRoomFor_27 rfl 0 rfl ?_
        refine x_iload_n C dX6_oneRoomFor_28 rfl 1 rfl ?_
        refine x_iload C dX6_oneRoomFor_29 4 rfl ?_
        obtain ⟨q5, hk8, h⟩ := Option.bind_eq_some_iff.mp h
        refine x_callV C (As := [.int p1, .int a7.2.2]) (rest := []) (lw_g_mk tw_1471 rfl) (lw_g_mk tsel_65 rfl) (c_Md) (C1 := "HostelBedsModel") (T := TX6) (N := 27) (ci := 6) rfl (okX6_takesAll l cy D B ek p1 a7.2.2 σ μ ω _ hk8) rfl rfl (by rw [hR9]; decide) (lw_g_mk tw_1472 rfl) (lw_g_mk tw_7 rfl) (by decide) rfl (lw_g_mk tw_1469 rfl) rfl (Nat.le_of_ble_eq_true rfl) dX6_oneRoomFor_31 (by rw [hR9]; decide) ?_
        refine x_if_ne C (tgt := 40) dX6_oneRoomFor_34 (by decide) (fun hc9 => ?_) (fun hc9 => ?_)
        · rw [if_pos hc9] at h
          refine x_aload_n C dX6_oneRoomFor_40 rfl 0 rfl ?_
          refine x_iload_n C dX6_oneRoomFor_41 rfl 1 rfl ?_
          refine x_iload C dX6_oneRoomFor_42 4 rfl ?_
          obtain ⟨q6, hk10, h⟩ := Option.bind_eq_some_iff.mp h
          refine x_callV C (As := [.int p1, .int a7.2.2]) (rest := []) (lw_g_mk tw_1475 rfl) (lw_g_mk tsel_66 rfl) (c_Md) (C1 := "HostelBedsModel") (T := TX6) (N := 27) (ci := 6) rfl (okX6_freeFor l cy D B ek p1 a7.2.2 σ μ ω _ hk10) rfl rfl (by rw [hR9]; decide) (lw_g_mk tw_1476 rfl) (lw_g_mk tw_7 rfl) (by decide) rfl (lw_g_mk tw_1473 rfl) rfl (Nat.le_of_ble_eq_true rfl) dX6_oneRoomFor_44 (by rw [hR9]; decide) ?_
          refine x_istore C [(5, .int q6), (0, .ref (B + oMd)), (1, .int p1), (2, .int a7.1), (3, .int a7.2.1), (4, .int a7.2.2)] dX6_oneRoomFor_47 (by decide) rfl ?_
          refine x_iload C dX6_oneRoomFor_49 0 rfl ?_
          refine x_aload_n C dX6_oneRoomFor_51 rfl 1 rfl ?_
          refine x_iload_n C dX6_oneRoomFor_52 rfl 2 rfl ?_
          obtain ⟨q7, hk11, h⟩ := Option.bind_eq_some_iff.mp h
          refine x_callV C (As := [.int p1]) (rest := [.int q6]) (lw_g_mk tw_1375 rfl) (lw_g_mk tsel_50 rfl) (c_Md) (C1 := "HostelBedsModel") (T := TX6) (N := 27) (ci := 6) rfl (okX6_persons l cy D B ek p1 σ μ ω _ hk11) rfl rfl (by rw [hR9]; decide) (lw_g_mk tw_1376 rfl) (lw_g_mk tw_7 rfl) (by decide) rfl (lw_g_mk tw_1373 rfl) rfl (Nat.le_of_ble_eq_true rfl) dX6_oneRoomFor_53 (by rw [hR9]; decide) ?_
          refine x_icmp_ge C (tgt := 62) dX6_oneRoomFor_56 (by decide) (fun hc12 => ?_) (fun hc12 => ?_)
          · rw [if_pos hc12] at h
            refine x_iload_n C dX6_oneRoomFor_62 rfl 3 rfl ?_
            refine x_iconst C (v := -1) dX6_oneRoomFor_63 (by decide) ?_
            have hJ14 : ∀ (t8 : Int32) (r9 : (Int32 × Int32 × Int32) ⊕ (Int32)), jX6_oneRoomFor_100 a7 q6 t8 = some r9 → (∀ a2, r9 = .inl a2 → (fun (a7 : Int32 × Int32 × Int32) => X p l e R s m args below meth c 7 cy D B 0 0 Q 7 [(0, .ref (B + oMd)), (1, .int p1), (2, .int a7.1), (3, .int a7.2.1), (4, .int a7.2.2)] [] σ μ ω) a2) → (∀ b2, r9 = .inr b2 → (fun (b7 : Int32) => X p l e R s m args below meth c 7 cy D B 0 0 Q 122 [(2, .int b7)] [] σ μ ω) b2) → X p l e R s m args below meth c 7 cy D B 0 0 Q 100 [(0, .ref (B + oMd)), (1, .int p1), (2, .int a7.1), (3, .int a7.2.1), (4, .int a7.2.2), (5, .int q6)] [.int t8] σ μ ω := by
              intro t8 r h hA1 hB2
              unfold jX6_oneRoomFor_100 at h
              refine x_istore C [(6, .int t8), (0, .ref (B + oMd)), (1, .int p1), (2, .int a7.1), (3, .int a7.2.1), (4, .int a7.2.2), (5, .int q6)] dX6_oneRoomFor_100 (by decide) rfl ?_
              refine x_iload C dX6_oneRoomFor_102 0 rfl ?_
              refine x_if_ne C (tgt := 110) dX6_oneRoomFor_104 (by decide) (fun hc13 => ?_) (fun hc13 => ?_)
              · rw [if_pos hc13] at h
                refine x_iload C dX6_oneRoomFor_110 5 rfl ?_
                refine x_istore_n C [(2, .int a7.2.2), (6, .int t8), (0, .ref (B + oMd)), (1, .int p1), (3, .int a7.2.1), (4, .int a7.2.2), (5, .int q6)] dX6_oneRoomFor_112 rfl (by decide) rfl ?_
                refine x_iload C dX6_oneRoomFor_113 6 rfl ?_
                refine x_istore_n C [(3, .int q6), (2, .int a7.2.2), (6, .int t8), (0, .ref (B + oMd)), (1, .int p1), (4, .int a7.2.2), (5, .int q6)] dX6_oneRoomFor_115 rfl (by decide) rfl ?_
                refine x_sub [3, 4, 1, 0, 5] rfl ?_
                exact hJ6 a7.2.2 q6 _ h hA1 hB2
              · rw [if_neg hc13] at h
                refine x_goto C (tgt := 116) dX6_oneRoomFor_107 (by decide) ?_
                refine x_sub [1, 2, 3, 4, 5] rfl ?_
                exact hJ6 a7.1 a7.2.1 _ h hA1 hB2
            have hJ15 : ∀ (r9 : (Int32 × Int32 × Int32) ⊕ (Int32)), jX6_oneRoomFor_95 a7 q6 = some r9 → (∀ a2, r9 = .inl a2 → (fun (a7 : Int32 × Int32 × Int32) => X p l e R s m args below meth c 7 cy D B 0 0 Q 7 [(0, .ref (B + oMd)), (1, .int p1), (2, .int a7.1), (3, .int a7.2.1), (4, .int a7.2.2)] [] σ μ ω) a2) → (∀ b2, r9 = .inr b2 → (fun (b7 : Int32) => X p l e R s m args below meth c 7 cy D B 0 0 Q 122 [(2, .int b7)] [] σ μ ω) b2) → X p l e R s m args below meth c 7 cy D B 0 0 Q 95 [(0, .ref (B + oMd)), (1, .int p1), (2, .int a7.1), (3, .int a7.2.1), (4, .int a7.2.2), (5, .int q6)] [] σ μ ω := by
              intro r h hA1 hB2
              unfold jX6_oneRoomFor_95 at h
              refine x_iconst C (v := 1) dX6_oneRoomFor_95 (by decide) ?_
              refine x_goto C (tgt := 100) dX6_oneRoomFor_96 (by decide) ?_
              exact hJ14 (1 : Int32) _ h hA1 hB2
            refine x_icmp_eq C (tgt := 95) dX6_oneRoomFor_64 (by decide) (fun hc16 => ?_) (fun hc16 => ?_)
            · rw [if_pos hc16] at h
              refine x_sub [1, 2, 3, 4, 5, 0] rfl ?_
              exact hJ15 _ h hA1 hB2
            · rw [if_neg hc16] at h
              refine x_iload C dX6_oneRoomFor_67 0 rfl ?_
              refine x_iload_n C dX6_oneRoomFor_69 rfl 4 rfl ?_
              refine x_icmp_lt C (tgt := 95) dX6_oneRoomFor_70 (by decide) (fun hc17 => ?_) (fun hc17 => ?_)
              · rw [if_pos hc17] at h
                refine x_sub [1, 2, 3, 4, 5, 0] rfl ?_
                exact hJ15 _ h hA1 hB2
              · rw [if_neg hc17] at h
                refine x_iload C dX6_oneRoomFor_73 0 rfl ?_
                refine x_iload_n C dX6_oneRoomFor_75 rfl 4 rfl ?_
                have hJ18 : ∀ (r9 : (Int32 × Int32 × Int32) ⊕ (Int32)), jX6_oneRoomFor_99 a7 q6 = some r9 → (∀ a2, r9 = .inl a2 → (fun (a7 : Int32 × Int32 × Int32) => X p l e R s m args below meth c 7 cy D B 0 0 Q 7 [(0, .ref (B + oMd)), (1, .int p1), (2, .int a7.1), (3, .int a7.2.1), (4, .int a7.2.2)] [] σ μ ω) a2) → (∀ b2, r9 = .inr b2 → (fun (b7 : Int32) => X p l e R s m args below meth c 7 cy D B 0 0 Q 122 [(2, .int b7)] [] σ μ ω) b2) → X p l e R s m args below meth c 7 cy D B 0 0 Q 99 [(0, .ref (B + oMd)), (1, .int p1), (2, .int a7.1), (3, .int a7.2.1), (4, .int a7.2.2), (5, .int q6)] [] σ μ ω := by
                  intro r h hA1 hB2
                  unfold jX6_oneRoomFor_99 at h
                  refine x_iconst C (v := 0) dX6_oneRoomFor_99 (by decide) ?_
                  exact hJ14 (0 : Int32) _ h hA1 hB2
                refine x_icmp_ne C (tgt := 99) dX6_oneRoomFor_76 (by decide) (fun hc19 => ?_) (fun hc19 => ?_)
                · rw [if_pos hc19] at h
                  refine x_sub [1, 2, 3, 4, 5, 0] rfl ?_
                  exact hJ18 _ h hA1 hB2
                · rw [if_neg hc19] at h
                  refine x_aload_n C dX6_oneRoomFor_79 rfl 1 rfl ?_
                  refine x_iload C dX6_oneRoomFor_80 5 rfl ?_
                  refine x_iconst C (v := 3) dX6_oneRoomFor_82 (by decide) ?_
                  obtain ⟨q9, hk20, h⟩ := Option.bind_eq_some_iff.mp h
                  refine x_callV C (As := [.int a7.2.2, .int (3 : Int32)]) (rest := []) (lw_g_mk tw_1359 rfl) (lw_g_mk tsel_46 rfl) (c_Md) (C1 := "HostelBedsModel") (T := TX6) (N := 27) (ci := 6) rfl (okX6_roomIs l cy D B ek a7.2.2 (3 : Int32) σ μ ω _ hk20) rfl rfl (by rw [hR9]; decide) (lw_g_mk tw_1360 rfl) (lw_g_mk tw_7 rfl) (by decide) rfl (lw_g_mk tw_1357 rfl) rfl (Nat.le_of_ble_eq_true rfl) dX6_oneRoomFor_83 (by rw [hR9]; decide) ?_
                  refine x_aload_n C dX6_oneRoomFor_86 rfl 1 rfl ?_
                  refine x_iload_n C dX6_oneRoomFor_87 rfl 3 rfl ?_
                  refine x_iconst C (v := 3) dX6_oneRoomFor_88 (by decide) ?_
                  obtain ⟨q10, hk21, h⟩ := Option.bind_eq_some_iff.mp h
                  refine x_callV C (As := [.int a7.1, .int (3 : Int32)]) (rest := [.int q9]) (lw_g_mk tw_1359 rfl) (lw_g_mk tsel_46 rfl) (c_Md) (C1 := "HostelBedsModel") (T := TX6) (N := 27) (ci := 6) rfl (okX6_roomIs l cy D B ek a7.1 (3 : Int32) σ μ ω _ hk21) rfl rfl (by rw [hR9]; decide) (lw_g_mk tw_1360 rfl) (lw_g_mk tw_7 rfl) (by decide) rfl (lw_g_mk tw_1357 rfl) rfl (Nat.le_of_ble_eq_true rfl) dX6_oneRoomFor_89 (by rw [hR9]; decide) ?_
                  refine x_icmp_ge C (tgt := 99) dX6_oneRoomFor_92 (by decide) (fun hc22 => ?_) (fun hc22 => ?_)
                  · rw [if_pos hc22] at h
                    refine x_sub [1, 2, 3, 4, 5, 0] rfl ?_
                    exact hJ18 _ h hA1 hB2
                  · rw [if_neg hc22] at h
                    refine x_sub [1, 2, 3, 4, 5, 0] rfl ?_
                    exact hJ15 _ h hA1 hB2
          · rw [if_neg hc12] at h
            refine x_goto C (tgt := 116) dX6_oneRoomFor_59 (by decide) ?_
            refine x_sub [1, 2, 3, 4, 5] rfl ?_
            exact hJ6 a7.1 a7.2.1 _ h hA1 hB2
        · rw [if_neg hc9] at h
          refine x_goto C (tgt := 116) dX6_oneRoomFor_37 (by decide) ?_
          exact hJ6 a7.1 a7.2.1 _ h hA1 hB2
  · show X p l e R s m args below meth c 7 cy D B 0 0 Q 122 [(2, .int b7)] [] σ μ ω
    refine x_iload_n C dX6_oneRoomFor_122 rfl 0 rfl ?_
    cases h
    exact hret _ _ dX6_oneRoomFor_123 rfl
def jX6_isEnough_105 (a21 : Int32 × Int32 × Int32 × Int32) (x4 : Int32) (x5 : Int32) (x6 : Int32) : Option ((Int32 × Int32 × Int32 × Int32) ⊕ (Int32 × Int32 × Int32)) := (some (.inl (x4, x5, x6, a21.2.2.2 + (1 : Int32))))
def stX6_isEnough_21 (μ : Mem) (p2 : Int32) (a21 : Int32 × Int32 × Int32 × Int32) : Option ((Int32 × Int32 × Int32 × Int32) ⊕ (Int32 × Int32 × Int32)) := ((fX6_get (4 : Int32) μ).bind fun q3 => (if q3 ≤ a21.2.2.2 then (some (.inr (a21.1, a21.2.1, a21.2.2.1))) else (if ¬ ((p2 >>> (a21.2.2.2 &&& 31)) &&& (1 : Int32)) = 0 then ((fX6_roomIs a21.2.2.2 (0 : Int32) μ).bind fun q7 => (if ¬ q7 = (1 : Int32) then ((fX6_roomIs a21.2.2.2 (0 : Int32) μ).bind fun q8 => (if ¬ q8 = (2 : Int32) then (gd (inb a21.2.2.2 8) (jX6_isEnough_105 a21 a21.1 a21.2.1 (a21.2.2.1 + (rI μ 80 0 a21.2.2.2.toNatClampNeg)))) else (gd (inb a21.2.2.2 8) (jX6_isEnough_105 a21 a21.1 (a21.2.1 - (rI μ 80 0 a21.2.2.2.toNatClampNeg)) a21.2.2.1)))) else (gd (inb a21.2.2.2 8) (jX6_isEnough_105 a21 (a21.1 - (rI μ 80 0 a21.2.2.2.toNatClampNeg)) a21.2.1 a21.2.2.1)))) else (jX6_isEnough_105 a21 a21.1 a21.2.1 a21.2.2.1))))
def jX6_isEnough_131 (b21 : Int32 × Int32 × Int32) (t9 : Int32) (t10 : Int32) : Option (Int32) := (if b21.2.2 < (t9 + t10) then (some ((0 : Int32))) else (some ((1 : Int32))))
def jX6_isEnough_120 (b21 : Int32 × Int32 × Int32) (t9 : Int32) : Option (Int32) := (if b21.2.1 ≤ 0 then (jX6_isEnough_131 b21 t9 (0 : Int32)) else (jX6_isEnough_131 b21 t9 b21.2.1))
def fX6_isEnough (p1 : Int32) (p2 : Int32) (μ : Mem) : Option (Int32) := ((fX6_of p1 (2 : Int32) μ).bind fun q1 => ((fX6_of p1 (3 : Int32) μ).bind fun q2 => ((loop (stX6_isEnough_21 μ p2) 5000 (q1, q2, (0 : Int32), (0 : Int32))).bind fun b21 => (if b21.1 ≤ 0 then (jX6_isEnough_120 b21 (0 : Int32)) else (jX6_isEnough_120 b21 b21.1)))))
set_option maxHeartbeats 4000000 in
set_option maxRecDepth 100000 in
theorem okX6_isEnough (l : Launch) (cy : Nat → ClassId) (D : va_G) (B : Nat) (ek : EK) (p1 : Int32) (p2 : Int32) (σ μ ω : Mem) (res : Int32) (h : fX6_isEnough p1 p2 μ = some res) : CT l cy D B ek yX6_isEnough cX6_isEnough 7 (some .boolean) ({ frames := 2, cells := 0, slots := 0, locals := 43 } : Room) [.ref (B + oMd), .int p1, .int p2] σ μ ω (some (.int res)) σ μ ω := by
  refine met_X (own := "HostelBedsModel") (by decide) rfl (Nat.le_of_ble_eq_true rfl) ?_
  intro p e s m args below meth c C hrT hlk
  have hret : ∀ (pc9 : Nat) (lcs9 : List (Nat × Value)), decode cX6_isEnough pc9 = .ok (.ireturn, 1) → narrow .boolean (.int res) = .int res → X p l e ({ frames := 2, cells := 0, slots := 0, locals := 43 } : Room) s m args below meth c 7 cy D B 0 0 (MQ below (QR cy D B (some (.int res)) σ μ ω) args s 0 0 (aB B)) pc9 lcs9 [.int res] σ μ ω := fun _ _ hd hn => x_zret C hrT hlk hn hd
  generalize (MQ below (QR cy D B (some (.int res)) σ μ ω) args s 0 0 (aB B)) = Q at hret ⊢
  obtain ⟨R, hR9⟩ : ∃ R : Room, R = ({ frames := 2, cells := 0, slots := 0, locals := 43 } : Room) := ⟨_, rfl⟩
  rw [← hR9] at hret ⊢
  unfold fX6_isEnough at h
  show X p l e R s m args below meth c 7 cy D B 0 0 Q 0 [(0, .ref (B + oMd)), (1, .int p1), (2, .int p2)] [] σ μ ω
  refine x_aload_n C dX6_isEnough_0 rfl 0 rfl ?_
  refine x_iload_n C dX6_isEnough_1 rfl 1 rfl ?_
  refine x_iconst C (v := 2) dX6_isEnough_2 (by decide) ?_
  obtain ⟨q1, hk1, h⟩ := Option.bind_eq_some_iff.mp h
  refine x_callV C (As := [.int p1, .int (2 : Int32)]) (rest := []) (lw_g_mk tw_1367 rfl) (lw_g_mk tsel_48 rfl) (c_Md) (C1 := "HostelBedsModel") (T := TX6) (N := 27) (ci := 6) rfl (okX6_of l cy D B ek p1 (2 : Int32) σ μ ω _ hk1) rfl rfl (by rw [hR9]; decide) (lw_g_mk tw_1368 rfl) (lw_g_mk tw_7 rfl) (by decide) rfl (lw_g_mk tw_1365 rfl) rfl (Nat.le_of_ble_eq_true rfl) dX6_isEnough_3 (by rw [hR9]; decide) ?_
  refine x_istore_n C [(3, .int q1), (0, .ref (B + oMd)), (1, .int p1), (2, .int p2)] dX6_isEnough_6 rfl (by decide) rfl ?_
  refine x_aload_n C dX6_isEnough_7 rfl 1 rfl ?_
  refine x_iload_n C dX6_isEnough_8 rfl 2 rfl ?_
  refine x_iconst C (v := 3) dX6_isEnough_9 (by decide) ?_
  obtain ⟨q2, hk2, h⟩ := Option.bind_eq_some_iff.mp h
  refine x_callV C (As := [.int p1, .int (3 : Int32)]) (rest := []) (lw_g_mk tw_1367 rfl) (lw_g_mk tsel_48 rfl) (c_Md) (C1 := "HostelBedsModel") (T := TX6) (N := 27) (ci := 6) rfl (okX6_of l cy D B ek p1 (3 : Int32) σ μ ω _ hk2) rfl rfl (by rw [hR9]; decide) (lw_g_mk tw_1368 rfl) (lw_g_mk tw_7 rfl) (by decide) rfl (lw_g_mk tw_1365 rfl) rfl (Nat.le_of_ble_eq_true rfl) dX6_isEnough_10 (by rw [hR9]; decide) ?_
  refine x_istore C [(4, .int q2), (3, .int q1), (0, .ref (B + oMd)), (1, .int p1), (2, .int p2)] dX6_isEnough_13 (by decide) rfl ?_
  refine x_iconst C (v := 0) dX6_isEnough_15 (by decide) ?_
  refine x_istore C [(5, .int (0 : Int32)), (4, .int q2), (3, .int q1), (0, .ref (B + oMd)), (1, .int p1), (2, .int p2)] dX6_isEnough_16 (by decide) rfl ?_
  refine x_iconst C (v := 0) dX6_isEnough_18 (by decide) ?_
  refine x_istore C [(6, .int (0 : Int32)), (5, .int (0 : Int32)), (4, .int q2), (3, .int q1), (0, .ref (B + oMd)), (1, .int p1), (2, .int p2)] dX6_isEnough_19 (by decide) rfl ?_
  obtain ⟨b21, hk16, h⟩ := Option.bind_eq_some_iff.mp h
  refine x_sub [4, 6, 3, 2, 1, 0] rfl ?_
  refine loop_run (step := stX6_isEnough_21 μ p2) (P := fun (a21 : Int32 × Int32 × Int32 × Int32) => X p l e R s m args below meth c 7 cy D B 0 0 Q 21 [(0, .ref (B + oMd)), (2, .int p2), (3, .int a21.1), (4, .int a21.2.1), (5, .int a21.2.2.1), (6, .int a21.2.2.2)] [] σ μ ω) (K := fun (b21 : Int32 × Int32 × Int32) => X p l e R s m args below meth c 7 cy D B 0 0 Q 111 [(3, .int b21.1), (4, .int b21.2.1), (5, .int b21.2.2)] [] σ μ ω) ?_ 5000 (q1, q2, (0 : Int32), (0 : Int32)) b21 hk16 ?_
  · intro a21 r h hA3 hB4
    unfold stX6_isEnough_21 at h
    refine x_iload C dX6_isEnough_21 5 rfl ?_
    refine x_aload_n C dX6_isEnough_23 rfl 0 rfl ?_
    refine x_iconst C (v := 4) dX6_isEnough_24 (by decide) ?_
    obtain ⟨q3, hk5, h⟩ := Option.bind_eq_some_iff.mp h
    refine x_callV C (As := [.int (4 : Int32)]) (rest := [.int a21.2.2.2]) (lw_g_mk tw_1296 rfl) (lw_g_mk tsel_31 rfl) (c_Md) (C1 := "HostelBedsModel") (T := TX6) (N := 27) (ci := 6) rfl (okX6_get l cy D B ek (4 : Int32) σ μ ω _ hk5) rfl rfl (by rw [hR9]; decide) (lw_g_mk tw_1297 rfl) (lw_g_mk tw_7 rfl) (by decide) rfl (lw_g_mk tw_1294 rfl) rfl (Nat.le_of_ble_eq_true rfl) dX6_isEnough_25 (by rw [hR9]; decide) ?_
    refine x_icmp_ge C (tgt := 111) dX6_isEnough_28 (by decide) (fun hc6 => ?_) (fun hc6 => ?_)
    · rw [if_pos hc6] at h
      cases h
      refine x_sub [2, 3, 4] rfl ?_
      exact hB4 (a21.1, a21.2.1, a21.2.2.1) rfl
    · rw [if_neg hc6] at h
      refine x_iload_n C dX6_isEnough_31 rfl 1 rfl ?_
      refine x_iload C dX6_isEnough_32 5 rfl ?_
      refine x_ishr C dX6_isEnough_34 ?_
      refine x_iconst C (v := 1) dX6_isEnough_35 (by decide) ?_
      refine x_iand C dX6_isEnough_36 ?_
      have hJ7 : ∀ (x4 : Int32) (x5 : Int32) (x6 : Int32) (r9 : (Int32 × Int32 × Int32 × Int32) ⊕ (Int32 × Int32 × Int32)), jX6_isEnough_105 a21 x4 x5 x6 = some r9 → (∀ a2, r9 = .inl a2 → (fun (a21 : Int32 × Int32 × Int32 × Int32) => X p l e R s m args below meth c 7 cy D B 0 0 Q 21 [(0, .ref (B + oMd)), (2, .int p2), (3, .int a21.1), (4, .int a21.2.1), (5, .int a21.2.2.1), (6, .int a21.2.2.2)] [] σ μ ω) a2) → (∀ b2, r9 = .inr b2 → (fun (b21 : Int32 × Int32 × Int32) => X p l e R s m args below meth c 7 cy D B 0 0 Q 111 [(3, .int b21.1), (4, .int b21.2.1), (5, .int b21.2.2)] [] σ μ ω) b2) → X p l e R s m args below meth c 7 cy D B 0 0 Q 105 [(0, .ref (B + oMd)), (2, .int p2), (3, .int x4), (4, .int x5), (5, .int x6), (6, .int a21.2.2.2)] [] σ μ ω := by
        intro x4 x5 x6 r h hA3 hB4
        unfold jX6_isEnough_105 at h
        refine x_iinc C (k := 5) [(6, .int (a21.2.2.2 + (1 : Int32))), (0, .ref (B + oMd)), (2, .int p2), (3, .int x4), (4, .int x5), (5, .int x6)] dX6_isEnough_105 rfl rfl (by decide) rfl ?_
        refine x_goto C (tgt := 21) dX6_isEnough_108 (by decide) ?_
        cases h
        refine x_sub [1, 2, 3, 4, 5, 0] rfl ?_
        exact hA3 (x4, x5, x6, a21.2.2.2 + (1 : Int32)) rfl
      refine x_if_ne C (tgt := 43) dX6_isEnough_37 (by decide) (fun hc8 => ?_) (fun hc8 => ?_)
      · rw [if_pos hc8] at h
        refine x_aload_n C dX6_isEnough_43 rfl 0 rfl ?_
        refine x_iload C dX6_isEnough_44 5 rfl ?_
        refine x_iconst C (v := 0) dX6_isEnough_46 (by decide) ?_
        obtain ⟨q7, hk9, h⟩ := Option.bind_eq_some_iff.mp h
        refine x_callV C (As := [.int a21.2.2.2, .int (0 : Int32)]) (rest := []) (lw_g_mk tw_1359 rfl) (lw_g_mk tsel_46 rfl) (c_Md) (C1 := "HostelBedsModel") (T := TX6) (N := 27) (ci := 6) rfl (okX6_roomIs l cy D B ek a21.2.2.2 (0 : Int32) σ μ ω _ hk9) rfl rfl (by rw [hR9]; decide) (lw_g_mk tw_1360 rfl) (lw_g_mk tw_7 rfl) (by decide) rfl (lw_g_mk tw_1357 rfl) rfl (Nat.le_of_ble_eq_true rfl) dX6_isEnough_47 (by rw [hR9]; decide) ?_
        refine x_iconst C (v := 1) dX6_isEnough_50 (by decide) ?_
        refine x_icmp_ne C (tgt := 67) dX6_isEnough_51 (by decide) (fun hc10 => ?_) (fun hc10 => ?_)
        · rw [if_pos hc10] at h
          refine x_aload_n C dX6_isEnough_67 rfl 0 rfl ?_
          refine x_iload C dX6_isEnough_68 5 rfl ?_
          refine x_iconst C (v := 0) dX6_isEnough_70 (by decide) ?_
          obtain ⟨q8, hk11, h⟩ := Option.bind_eq_some_iff.mp h
          refine x_callV C (As := [.int a21.2.2.2, .int (0 : Int32)]) (rest := []) (lw_g_mk tw_1359 rfl) (lw_g_mk tsel_46 rfl) (c_Md) (C1 := "HostelBedsModel") (T := TX6) (N := 27) (ci := 6) rfl (okX6_roomIs l cy D B ek a21.2.2.2 (0 : Int32) σ μ ω _ hk11) rfl rfl (by rw [hR9]; decide) (lw_g_mk tw_1360 rfl) (lw_g_mk tw_7 rfl) (by decide) rfl (lw_g_mk tw_1357 rfl) rfl (Nat.le_of_ble_eq_true rfl) dX6_isEnough_71 (by rw [hR9]; decide) ?_
          refine x_iconst C (v := 2) dX6_isEnough_74 (by decide) ?_
          refine x_icmp_ne C (tgt := 93) dX6_isEnough_75 (by decide) (fun hc12 => ?_) (fun hc12 => ?_)
          · rw [if_pos hc12] at h
            refine x_iload C dX6_isEnough_93 4 rfl ?_
            refine x_aload_n C dX6_isEnough_95 rfl 0 rfl ?_
            refine x_get C (C1 := "HostelBedsModel") (T := TX6) (N := 27) (ci := 6) inXg6 _ (c_Md) rfl 25 (by decide) (lw_g_mk tw_1156 rfl) rfl dX6_isEnough_96 ?_
            refine x_iload C dX6_isEnough_99 5 rfl ?_
            obtain ⟨hg13, h⟩ := gd_some h
            refine x_iald C _ (c_FN) hg13 dX6_isEnough_101 ?_
            refine x_iadd C dX6_isEnough_102 ?_
            refine x_istore C [(5, .int (a21.2.2.1 + (rI μ 80 0 a21.2.2.2.toNatClampNeg))), (0, .ref (B + oMd)), (2, .int p2), (3, .int a21.1), (4, .int a21.2.1), (6, .int a21.2.2.2)] dX6_isEnough_103 (by decide) rfl ?_
            refine x_sub [1, 2, 3, 4, 0, 5] rfl ?_
            exact hJ7 a21.1 a21.2.1 (a21.2.2.1 + (rI μ 80 0 a21.2.2.2.toNatClampNeg)) _ h hA3 hB4
          · rw [if_neg hc12] at h
            refine x_iload C dX6_isEnough_78 3 rfl ?_
            refine x_aload_n C dX6_isEnough_80 rfl 0 rfl ?_
            refine x_get C (C1 := "HostelBedsModel") (T := TX6) (N := 27) (ci := 6) inXg6 _ (c_Md) rfl 25 (by decide) (lw_g_mk tw_1156 rfl) rfl dX6_isEnough_81 ?_
            refine x_iload C dX6_isEnough_84 5 rfl ?_
            obtain ⟨hg14, h⟩ := gd_some h
            refine x_iald C _ (c_FN) hg14 dX6_isEnough_86 ?_
            refine x_isub C dX6_isEnough_87 ?_
            refine x_istore C [(4, .int (a21.2.1 - (rI μ 80 0 a21.2.2.2.toNatClampNeg))), (0, .ref (B + oMd)), (2, .int p2), (3, .int a21.1), (5, .int a21.2.2.1), (6, .int a21.2.2.2)] dX6_isEnough_88 (by decide) rfl ?_
            refine x_goto C (tgt := 105) dX6_isEnough_90 (by decide) ?_
            refine x_sub [1, 2, 3, 0, 4, 5] rfl ?_
            exact hJ7 a21.1 (a21.2.1 - (rI μ 80 0 a21.2.2.2.toNatClampNeg)) a21.2.2.1 _ h hA3 hB4
        · rw [if_neg hc10] at h
          refine x_iload_n C dX6_isEnough_54 rfl 2 rfl ?_
          refine x_aload_n C dX6_isEnough_55 rfl 0 rfl ?_
          refine x_get C (C1 := "HostelBedsModel") (T := TX6) (N := 27) (ci := 6) inXg6 _ (c_Md) rfl 25 (by decide) (lw_g_mk tw_1156 rfl) rfl dX6_isEnough_56 ?_
          refine x_iload C dX6_isEnough_59 5 rfl ?_
          obtain ⟨hg15, h⟩ := gd_some h
          refine x_iald C _ (c_FN) hg15 dX6_isEnough_61 ?_
          refine x_isub C dX6_isEnough_62 ?_
          refine x_istore_n C [(3, .int (a21.1 - (rI μ 80 0 a21.2.2.2.toNatClampNeg))), (0, .ref (B + oMd)), (2, .int p2), (4, .int a21.2.1), (5, .int a21.2.2.1), (6, .int a21.2.2.2)] dX6_isEnough_63 rfl (by decide) rfl ?_
          refine x_goto C (tgt := 105) dX6_isEnough_64 (by decide) ?_
          refine x_sub [1, 2, 0, 3, 4, 5] rfl ?_
          exact hJ7 (a21.1 - (rI μ 80 0 a21.2.2.2.toNatClampNeg)) a21.2.1 a21.2.2.1 _ h hA3 hB4
      · rw [if_neg hc8] at h
        refine x_goto C (tgt := 105) dX6_isEnough_40 (by decide) ?_
        exact hJ7 a21.1 a21.2.1 a21.2.2.1 _ h hA3 hB4
  · show X p l e R s m args below meth c 7 cy D B 0 0 Q 111 [(3, .int b21.1), (4, .int b21.2.1), (5, .int b21.2.2)] [] σ μ ω
    refine x_iload_n C dX6_isEnough_111 rfl 0 rfl ?_
    have hJ20 : ∀ (t9 : Int32) (r9 : Int32), jX6_isEnough_120 b21 t9 = some r9 → (∀ (pc9 : Nat) (lcs9 : List (Nat × Value)), decode cX6_isEnough pc9 = .ok (.ireturn, 1) → narrow .boolean (.int r9) = .int r9 → X p l e R s m args below meth c 7 cy D B 0 0 Q pc9 lcs9 [.int r9] σ μ ω) → X p l e R s m args below meth c 7 cy D B 0 0 Q 120 [(4, .int b21.2.1), (5, .int b21.2.2)] [.int t9] σ μ ω := by
      intro t9 res9 h hret
      unfold jX6_isEnough_120 at h
      refine x_iload C dX6_isEnough_120 0 rfl ?_
      have hJ18 : ∀ (t10 : Int32) (r9 : Int32), jX6_isEnough_131 b21 t9 t10 = some r9 → (∀ (pc9 : Nat) (lcs9 : List (Nat × Value)), decode cX6_isEnough pc9 = .ok (.ireturn, 1) → narrow .boolean (.int r9) = .int r9 → X p l e R s m args below meth c 7 cy D B 0 0 Q pc9 lcs9 [.int r9] σ μ ω) → X p l e R s m args below meth c 7 cy D B 0 0 Q 131 [(5, .int b21.2.2)] [.int t10, .int t9] σ μ ω := by
        intro t10 res9 h hret
        unfold jX6_isEnough_131 at h
        refine x_iadd C dX6_isEnough_131 ?_
        refine x_iload C dX6_isEnough_132 0 rfl ?_
        refine x_icmp_gt C (tgt := 141) dX6_isEnough_134 (by decide) (fun hc17 => ?_) (fun hc17 => ?_)
        · rw [if_pos hc17] at h
          refine x_iconst C (v := 0) dX6_isEnough_141 (by decide) ?_
          cases h
          exact hret _ _ dX6_isEnough_142 (nar_Z (Or.inl rfl))
        · rw [if_neg hc17] at h
          refine x_iconst C (v := 1) dX6_isEnough_137 (by decide) ?_
          refine x_goto C (tgt := 142) dX6_isEnough_138 (by decide) ?_
          cases h
          exact hret _ _ dX6_isEnough_142 (nar_Z (Or.inr rfl))
      refine x_if_le C (tgt := 130) dX6_isEnough_122 (by decide) (fun hc19 => ?_) (fun hc19 => ?_)
      · rw [if_pos hc19] at h
        refine x_iconst C (v := 0) dX6_isEnough_130 (by decide) ?_
        refine x_sub [1] rfl ?_
        exact hJ18 (0 : Int32) _ h hret
      · rw [if_neg hc19] at h
        refine x_iload C dX6_isEnough_125 0 rfl ?_
        refine x_goto C (tgt := 131) dX6_isEnough_127 (by decide) ?_
        refine x_sub [1] rfl ?_
        exact hJ18 b21.2.1 _ h hret
    refine x_if_le C (tgt := 119) dX6_isEnough_112 (by decide) (fun hc21 => ?_) (fun hc21 => ?_)
    · rw [if_pos hc21] at h
      refine x_iconst C (v := 0) dX6_isEnough_119 (by decide) ?_
      refine x_sub [1, 2] rfl ?_
      exact hJ20 (0 : Int32) _ h hret
    · rw [if_neg hc21] at h
      refine x_iload_n C dX6_isEnough_115 rfl 0 rfl ?_
      refine x_goto C (tgt := 120) dX6_isEnough_116 (by decide) ?_
      refine x_sub [1, 2] rfl ?_
      exact hJ20 b21.1 _ h hret
def stX6_many_4 (p1 : Int32) (a4 : Int32 × Int32) : Option ((Int32 × Int32) ⊕ (Int32)) := (if (8 : Int32) ≤ a4.2 then (some (.inr a4.1)) else (some (.inl (a4.1 + ((p1 >>> (a4.2 &&& 31)) &&& (1 : Int32)), a4.2 + (1 : Int32)))))
def fX6_many (p1 : Int32) : Option (Int32) := ((loop (stX6_many_4 p1) 5000 ((0 : Int32), (0 : Int32))).bind fun b4 => (some b4))
set_option maxHeartbeats 4000000 in
set_option maxRecDepth 100000 in
theorem okX6_many (l : Launch) (cy : Nat → ClassId) (D : va_G) (B : Nat) (ek : EK) (p1 : Int32) (σ μ ω : Mem) (res : Int32) (h : fX6_many p1 = some res) : CT l cy D B ek yX6_many cX6_many 3 (some .int) ({ frames := 0, cells := 0, slots := 0, locals := 0 } : Room) [.int p1] σ μ ω (some (.int res)) σ μ ω := by
  refine met_X (own := "HostelBedsModel") (by decide) rfl (Nat.le_of_ble_eq_true rfl) ?_
  intro p e s m args below meth c C hrT hlk
  have hret : ∀ (pc9 : Nat) (lcs9 : List (Nat × Value)), decode cX6_many pc9 = .ok (.ireturn, 1) → narrow .int (.int res) = .int res → X p l e ({ frames := 0, cells := 0, slots := 0, locals := 0 } : Room) s m args below meth c 3 cy D B 0 0 (MQ below (QR cy D B (some (.int res)) σ μ ω) args s 0 0 (aB B)) pc9 lcs9 [.int res] σ μ ω := fun _ _ hd hn => x_zret C hrT hlk hn hd
  generalize (MQ below (QR cy D B (some (.int res)) σ μ ω) args s 0 0 (aB B)) = Q at hret ⊢
  obtain ⟨R, hR9⟩ : ∃ R : Room, R = ({ frames := 0, cells := 0, slots := 0, locals := 0 } : Room) := ⟨_, rfl⟩
  rw [← hR9] at hret ⊢
  unfold fX6_many at h
  show X p l e R s m args below meth c 3 cy D B 0 0 Q 0 [(0, .int p1)] [] σ μ ω
  refine x_iconst C (v := 0) dX6_many_0 (by decide) ?_
  refine x_istore_n C [(1, .int (0 : Int32)), (0, .int p1)] dX6_many_1 rfl (by decide) rfl ?_
  refine x_iconst C (v := 0) dX6_many_2 (by decide) ?_
  refine x_istore_n C [(2, .int (0 : Int32)), (1, .int (0 : Int32)), (0, .int p1)] dX6_many_3 rfl (by decide) rfl ?_
  obtain ⟨b4, hk4, h⟩ := Option.bind_eq_some_iff.mp h
  refine x_sub [2, 1, 0] rfl ?_
  refine loop_run (step := stX6_many_4 p1) (P := fun (a4 : Int32 × Int32) => X p l e R s m args below meth c 3 cy D B 0 0 Q 4 [(0, .int p1), (1, .int a4.1), (2, .int a4.2)] [] σ μ ω) (K := fun (b4 : Int32) => X p l e R s m args below meth c 3 cy D B 0 0 Q 24 [(1, .int b4)] [] σ μ ω) ?_ 5000 ((0 : Int32), (0 : Int32)) b4 hk4 ?_
  · intro a4 r h hA1 hB2
    unfold stX6_many_4 at h
    refine x_iload_n C dX6_many_4 rfl 2 rfl ?_
    refine x_bipush C (v := 8) dX6_many_5 (by decide) ?_
    refine x_icmp_ge C (tgt := 24) dX6_many_7 (by decide) (fun hc3 => ?_) (fun hc3 => ?_)
    · rw [if_pos hc3] at h
      cases h
      refine x_sub [1] rfl ?_
      exact hB2 a4.1 rfl
    · rw [if_neg hc3] at h
      refine x_iload_n C dX6_many_10 rfl 1 rfl ?_
      refine x_iload_n C dX6_many_11 rfl 0 rfl ?_
      refine x_iload_n C dX6_many_12 rfl 2 rfl ?_
      refine x_ishr C dX6_many_13 ?_
      refine x_iconst C (v := 1) dX6_many_14 (by decide) ?_
      refine x_iand C dX6_many_15 ?_
      refine x_iadd C dX6_many_16 ?_
      refine x_istore_n C [(1, .int (a4.1 + ((p1 >>> (a4.2 &&& 31)) &&& (1 : Int32)))), (0, .int p1), (2, .int a4.2)] dX6_many_17 rfl (by decide) rfl ?_
      refine x_iinc C (k := 2) [(2, .int (a4.2 + (1 : Int32))), (1, .int (a4.1 + ((p1 >>> (a4.2 &&& 31)) &&& (1 : Int32)))), (0, .int p1)] dX6_many_18 rfl rfl (by decide) rfl ?_
      refine x_goto C (tgt := 4) dX6_many_21 (by decide) ?_
      cases h
      refine x_sub [2, 1, 0] rfl ?_
      exact hA1 (a4.1 + ((p1 >>> (a4.2 &&& 31)) &&& (1 : Int32)), a4.2 + (1 : Int32)) rfl
  · show X p l e R s m args below meth c 3 cy D B 0 0 Q 24 [(1, .int b4)] [] σ μ ω
    refine x_iload_n C dX6_many_24 rfl 0 rfl ?_
    cases h
    exact hret _ _ dX6_many_25 rfl
def jX6_setFor_42 (a4 : Int32 × Int32 × Mem) (q2 : Int32) (t4 : Int32) : Option ((Int32 × Int32 × Mem) ⊕ (Int32 × Mem)) := (some (.inl (a4.1 ||| t4, a4.2.1 + (1 : Int32), wI a4.2.2 80 0 a4.2.1.toNatClampNeg q2)))
def stX6_setFor_4 (p1 : Int32) (a4 : Int32 × Int32 × Mem) : Option ((Int32 × Int32 × Mem) ⊕ (Int32 × Mem)) := ((fX6_get (4 : Int32) a4.2.2).bind fun q1 => (if q1 ≤ a4.2.1 then (some (.inr (a4.1, a4.2.2))) else ((fX6_freeFor p1 a4.2.1 a4.2.2).bind fun q2 => (gd (inb a4.2.1 8) ((fX6_canUse p1 a4.2.1 (wI a4.2.2 80 0 a4.2.1.toNatClampNeg q2)).bind fun q3 => (if q3 = 0 then (jX6_setFor_42 a4 q2 (0 : Int32)) else (jX6_setFor_42 a4 q2 ((1 : Int32) <<< (a4.2.1 &&& 31)))))))))
def jX6_setFor_112 (a55 : Int32 × Int32) (x6 : Int32) : Option ((Int32 × Int32) ⊕ (Int32)) := (some (.inl (x6, a55.2 + (1 : Int32))))
def jX6_setFor_111 (a55 : Int32 × Int32) (t8 : Int32) : Option ((Int32 × Int32) ⊕ (Int32)) := (jX6_setFor_112 a55 t8)
def jX6_setFor_95 (p1 : Int32) (a55 : Int32 × Int32) (b4 : Int32 × Mem) : Option ((Int32 × Int32) ⊕ (Int32)) := ((fX6_isEnough p1 a55.2 b4.2).bind fun q7 => (if q7 = 0 then (jX6_setFor_111 a55 a55.1) else (jX6_setFor_111 a55 a55.2)))
def stX6_setFor_55 (b4 : Int32 × Mem) (p1 : Int32) (a55 : Int32 × Int32) : Option ((Int32 × Int32) ⊕ (Int32)) := ((fX6_get (4 : Int32) b4.2).bind fun q5 => (if ((1 : Int32) <<< (q5 &&& 31)) ≤ a55.2 then (some (.inr a55.1)) else (if ¬ (a55.2 &&& (b4.1 ^^^ (-1 : Int32))) = 0 then (jX6_setFor_112 a55 a55.1) else (if a55.1 = 0 then (jX6_setFor_95 p1 a55 b4) else ((fX6_many a55.2).bind fun q9 => ((fX6_many a55.1).bind fun q10 => (if q9 < q10 then (jX6_setFor_95 p1 a55 b4) else (jX6_setFor_112 a55 a55.1))))))))
def fX6_setFor (p1 : Int32) (μ : Mem) : Option (Int32 × Mem) := ((loop (stX6_setFor_4 p1) 5000 ((0 : Int32), (0 : Int32), μ)).bind fun b4 => ((loop (stX6_setFor_55 b4 p1) 5000 ((0 : Int32), (1 : Int32))).bind fun b55 => (if ¬ b55 = 0 then (some (b55, b4.2)) else (some ((-1 : Int32), b4.2)))))
set_option maxHeartbeats 4000000 in
set_option maxRecDepth 100000 in
theorem okX6_setFor (l : Launch) (cy : Nat → ClassId) (D : va_G) (B : Nat) (ek : EK) (p1 : Int32) (σ μ ω : Mem) (res : Int32 × Mem) (h : fX6_setFor p1 μ = some res) : CT l cy D B ek yX6_setFor cX6_setFor 5 (some .int) ({ frames := 5, cells := 0, slots := 0, locals := 113 } : Room) [.ref (B + oMd), .int p1] σ μ ω (some (.int res.1)) σ res.2 ω := by
  refine met_X (own := "HostelBedsModel") (by decide) rfl (Nat.le_of_ble_eq_true rfl) ?_
  intro p e s m args below meth c C hrT hlk
  have hret : ∀ (pc9 : Nat) (lcs9 : List (Nat × Value)), decode cX6_setFor pc9 = .ok (.ireturn, 1) → narrow .int (.int res.1) = .int res.1 → X p l e ({ frames := 5, cells := 0, slots := 0, locals := 113 } : Room) s m args below meth c 5 cy D B 0 0 (MQ below (QR cy D B (some (.int res.1)) σ res.2 ω) args s 0 0 (aB B)) pc9 lcs9 [.int res.1] σ res.2 ω := fun _ _ hd hn => x_zret C hrT hlk hn hd
  generalize (MQ below (QR cy D B (some (.int res.1)) σ res.2 ω) args s 0 0 (aB B)) = Q at hret ⊢
  obtain ⟨R, hR9⟩ : ∃ R : Room, R = ({ frames := 5, cells := 0, slots := 0, locals := 113 } : Room) := ⟨_, rfl⟩
  rw [← hR9] at hret ⊢
  unfold fX6_setFor at h
  show X p l e R s m args below meth c 5 cy D B 0 0 Q 0 [(0, .ref (B + oMd)), (1, .int p1)] [] σ μ ω
  refine x_iconst C (v := 0) dX6_setFor_0 (by decide) ?_
  refine x_istore_n C [(2, .int (0 : Int32)), (0, .ref (B + oMd)), (1, .int p1)] dX6_setFor_1 rfl (by decide) rfl ?_
  refine x_iconst C (v := 0) dX6_setFor_2 (by decide) ?_
  refine x_istore_n C [(3, .int (0 : Int32)), (2, .int (0 : Int32)), (0, .ref (B + oMd)), (1, .int p1)] dX6_setFor_3 rfl (by decide) rfl ?_
  obtain ⟨b4, hk10, h⟩ := Option.bind_eq_some_iff.mp h
  refine x_sub [2, 3, 1, 0] rfl ?_
  refine loop_run (step := stX6_setFor_4 p1) (P := fun (a4 : Int32 × Int32 × Mem) => X p l e R s m args below meth c 5 cy D B 0 0 Q 4 [(0, .ref (B + oMd)), (1, .int p1), (2, .int a4.1), (3, .int a4.2.1)] [] σ a4.2.2 ω) (K := fun (b4 : Int32 × Mem) => X p l e R s m args below meth c 5 cy D B 0 0 Q 50 [(0, .ref (B + oMd)), (1, .int p1), (2, .int b4.1)] [] σ b4.2 ω) ?_ 5000 ((0 : Int32), (0 : Int32), μ) b4 hk10 ?_
  · intro a4 r h hA1 hB2
    unfold stX6_setFor_4 at h
    refine x_iload_n C dX6_setFor_4 rfl 3 rfl ?_
    refine x_aload_n C dX6_setFor_5 rfl 0 rfl ?_
    refine x_iconst C (v := 4) dX6_setFor_6 (by decide) ?_
    obtain ⟨q1, hk3, h⟩ := Option.bind_eq_some_iff.mp h
    refine x_callV C (As := [.int (4 : Int32)]) (rest := [.int a4.2.1]) (lw_g_mk tw_1296 rfl) (lw_g_mk tsel_31 rfl) (c_Md) (C1 := "HostelBedsModel") (T := TX6) (N := 27) (ci := 6) rfl (okX6_get l cy D B ek (4 : Int32) σ a4.2.2 ω _ hk3) rfl rfl (by rw [hR9]; decide) (lw_g_mk tw_1297 rfl) (lw_g_mk tw_7 rfl) (by decide) rfl (lw_g_mk tw_1294 rfl) rfl (Nat.le_of_ble_eq_true rfl) dX6_setFor_7 (by rw [hR9]; decide) ?_
    refine x_icmp_ge C (tgt := 50) dX6_setFor_10 (by decide) (fun hc4 => ?_) (fun hc4 => ?_)
    · rw [if_pos hc4] at h
      cases h
      refine x_sub [0, 1, 2] rfl ?_
      exact hB2 (a4.1, a4.2.2) rfl
    · rw [if_neg hc4] at h
      refine x_aload_n C dX6_setFor_13 rfl 0 rfl ?_
      refine x_get C (C1 := "HostelBedsModel") (T := TX6) (N := 27) (ci := 6) inXg6 _ (c_Md) rfl 25 (by decide) (lw_g_mk tw_1156 rfl) rfl dX6_setFor_14 ?_
      refine x_iload_n C dX6_setFor_17 rfl 3 rfl ?_
      refine x_aload_n C dX6_setFor_18 rfl 0 rfl ?_
      refine x_iload_n C dX6_setFor_19 rfl 1 rfl ?_
      refine x_iload_n C dX6_setFor_20 rfl 3 rfl ?_
      obtain ⟨q2, hk5, h⟩ := Option.bind_eq_some_iff.mp h
      refine x_callV C (As := [.int p1, .int a4.2.1]) (rest := [.int a4.2.1, .ref (B + oFN)]) (lw_g_mk tw_1475 rfl) (lw_g_mk tsel_66 rfl) (c_Md) (C1 := "HostelBedsModel") (T := TX6) (N := 27) (ci := 6) rfl (okX6_freeFor l cy D B ek p1 a4.2.1 σ a4.2.2 ω _ hk5) rfl rfl (by rw [hR9]; decide) (lw_g_mk tw_1476 rfl) (lw_g_mk tw_7 rfl) (by decide) rfl (lw_g_mk tw_1473 rfl) rfl (Nat.le_of_ble_eq_true rfl) dX6_setFor_21 (by rw [hR9]; decide) ?_
      obtain ⟨hg6, h⟩ := gd_some h
      refine x_iast C _ (c_FN) hg6 dX6_setFor_24 (s_FN) ?_
      refine x_iload_n C dX6_setFor_25 rfl 2 rfl ?_
      refine x_aload_n C dX6_setFor_26 rfl 0 rfl ?_
      refine x_iload_n C dX6_setFor_27 rfl 1 rfl ?_
      refine x_iload_n C dX6_setFor_28 rfl 3 rfl ?_
      obtain ⟨q3, hk7, h⟩ := Option.bind_eq_some_iff.mp h
      refine x_callV C (As := [.int p1, .int a4.2.1]) (rest := [.int a4.1]) (lw_g_mk tw_1467 rfl) (lw_g_mk tsel_64 rfl) (c_Md) (C1 := "HostelBedsModel") (T := TX6) (N := 27) (ci := 6) rfl (okX6_canUse l cy D B ek p1 a4.2.1 σ (wI a4.2.2 80 0 a4.2.1.toNatClampNeg q2) ω _ hk7) rfl rfl (by rw [hR9]; decide) (lw_g_mk tw_1468 rfl) (lw_g_mk tw_7 rfl) (by decide) rfl (lw_g_mk tw_1465 rfl) rfl (Nat.le_of_ble_eq_true rfl) dX6_setFor_29 (by rw [hR9]; decide) ?_
      have hJ8 : ∀ (t4 : Int32) (r9 : (Int32 × Int32 × Mem) ⊕ (Int32 × Mem)), jX6_setFor_42 a4 q2 t4 = some r9 → (∀ a2, r9 = .inl a2 → (fun (a4 : Int32 × Int32 × Mem) => X p l e R s m args below meth c 5 cy D B 0 0 Q 4 [(0, .ref (B + oMd)), (1, .int p1), (2, .int a4.1), (3, .int a4.2.1)] [] σ a4.2.2 ω) a2) → (∀ b2, r9 = .inr b2 → (fun (b4 : Int32 × Mem) => X p l e R s m args below meth c 5 cy D B 0 0 Q 50 [(0, .ref (B + oMd)), (1, .int p1), (2, .int b4.1)] [] σ b4.2 ω) b2) → X p l e R s m args below meth c 5 cy D B 0 0 Q 42 [(0, .ref (B + oMd)), (1, .int p1), (3, .int a4.2.1)] [.int t4, .int a4.1] σ (wI a4.2.2 80 0 a4.2.1.toNatClampNeg q2) ω := by
        intro t4 r h hA1 hB2
        unfold jX6_setFor_42 at h
        refine x_ior C dX6_setFor_42 ?_
        refine x_istore_n C [(2, .int (a4.1 ||| t4)), (0, .ref (B + oMd)), (1, .int p1), (3, .int a4.2.1)] dX6_setFor_43 rfl (by decide) rfl ?_
        refine x_iinc C (k := 3) [(3, .int (a4.2.1 + (1 : Int32))), (2, .int (a4.1 ||| t4)), (0, .ref (B + oMd)), (1, .int p1)] dX6_setFor_44 rfl rfl (by decide) rfl ?_
        refine x_goto C (tgt := 4) dX6_setFor_47 (by decide) ?_
        cases h
        refine x_sub [2, 3, 1, 0] rfl ?_
        exact hA1 (a4.1 ||| t4, a4.2.1 + (1 : Int32), wI a4.2.2 80 0 a4.2.1.toNatClampNeg q2) rfl
      refine x_if_eq C (tgt := 41) dX6_setFor_32 (by decide) (fun hc9 => ?_) (fun hc9 => ?_)
      · rw [if_pos hc9] at h
        refine x_iconst C (v := 0) dX6_setFor_41 (by decide) ?_
        refine x_sub [0, 1, 3] rfl ?_
        exact hJ8 (0 : Int32) _ h hA1 hB2
      · rw [if_neg hc9] at h
        refine x_iconst C (v := 1) dX6_setFor_35 (by decide) ?_
        refine x_iload_n C dX6_setFor_36 rfl 3 rfl ?_
        refine x_ishl C dX6_setFor_37 ?_
        refine x_goto C (tgt := 42) dX6_setFor_38 (by decide) ?_
        refine x_sub [0, 1, 3] rfl ?_
        exact hJ8 ((1 : Int32) <<< (a4.2.1 &&& 31)) _ h hA1 hB2
  · show X p l e R s m args below meth c 5 cy D B 0 0 Q 50 [(0, .ref (B + oMd)), (1, .int p1), (2, .int b4.1)] [] σ b4.2 ω
    refine x_iconst C (v := 0) dX6_setFor_50 (by decide) ?_
    refine x_istore_n C [(3, .int (0 : Int32)), (0, .ref (B + oMd)), (1, .int p1), (2, .int b4.1)] dX6_setFor_51 rfl (by decide) rfl ?_
    refine x_iconst C (v := 1) dX6_setFor_52 (by decide) ?_
    refine x_istore C [(4, .int (1 : Int32)), (3, .int (0 : Int32)), (0, .ref (B + oMd)), (1, .int p1), (2, .int b4.1)] dX6_setFor_53 (by decide) rfl ?_
    obtain ⟨b55, hk25, h⟩ := Option.bind_eq_some_iff.mp h
    refine x_sub [2, 3, 4, 1, 0] rfl ?_
    refine loop_run (step := stX6_setFor_55 b4 p1) (P := fun (a55 : Int32 × Int32) => X p l e R s m args below meth c 5 cy D B 0 0 Q 55 [(0, .ref (B + oMd)), (1, .int p1), (2, .int b4.1), (3, .int a55.1), (4, .int a55.2)] [] σ b4.2 ω) (K := fun (b55 : Int32) => X p l e R s m args below meth c 5 cy D B 0 0 Q 118 [(3, .int b55)] [] σ b4.2 ω) ?_ 5000 ((0 : Int32), (1 : Int32)) b55 hk25 ?_
    · intro a55 r h hA11 hB12
      unfold stX6_setFor_55 at h
      refine x_iload C dX6_setFor_55 4 rfl ?_
      refine x_iconst C (v := 1) dX6_setFor_57 (by decide) ?_
      refine x_aload_n C dX6_setFor_58 rfl 0 rfl ?_
      refine x_iconst C (v := 4) dX6_setFor_59 (by decide) ?_
      obtain ⟨q5, hk13, h⟩ := Option.bind_eq_some_iff.mp h
      refine x_callV C (As := [.int (4 : Int32)]) (rest := [.int (1 : Int32), .int a55.2]) (lw_g_mk tw_1296 rfl) (lw_g_mk tsel_31 rfl) (c_Md) (C1 := "HostelBedsModel") (T := TX6) (N := 27) (ci := 6) rfl (okX6_get l cy D B ek (4 : Int32) σ b4.2 ω _ hk13) rfl rfl (by rw [hR9]; decide) (lw_g_mk tw_1297 rfl) (lw_g_mk tw_7 rfl) (by decide) rfl (lw_g_mk tw_1294 rfl) rfl (Nat.le_of_ble_eq_true rfl) dX6_setFor_60 (by rw [hR9]; decide) ?_
      refine x_ishl C dX6_setFor_63 ?_
      refine x_icmp_ge C (tgt := 118) dX6_setFor_64 (by decide) (fun hc14 => ?_) (fun hc14 => ?_)
      · rw [if_pos hc14] at h
        cases h
        refine x_sub [3] rfl ?_
        exact hB12 a55.1 rfl
      · rw [if_neg hc14] at h
        refine x_iload C dX6_setFor_67 4 rfl ?_
        refine x_iload_n C dX6_setFor_69 rfl 2 rfl ?_
        refine x_iconst C (v := -1) dX6_setFor_70 (by decide) ?_
        refine x_ixor C dX6_setFor_71 ?_
        refine x_iand C dX6_setFor_72 ?_
        have hJ15 : ∀ (x6 : Int32) (r9 : (Int32 × Int32) ⊕ (Int32)), jX6_setFor_112 a55 x6 = some r9 → (∀ a2, r9 = .inl a2 → (fun (a55 : Int32 × Int32) => X p l e R s m args below meth c 5 cy D B 0 0 Q 55 [(0, .ref (B + oMd)), (1, .int p1), (2, .int b4.1), (3, .int a55.1), (4, .int a55.2)] [] σ b4.2 ω) a2) → (∀ b2, r9 = .inr b2 → (fun (b55 : Int32) => X p l e R s m args below meth c 5 cy D B 0 0 Q 118 [(3, .int b55)] [] σ b4.2 ω) b2) → X p l e R s m args below meth c 5 cy D B 0 0 Q 112 [(0, .ref (B + oMd)), (1, .int p1), (2, .int b4.1), (3, .int x6), (4, .int a55.2)] [] σ b4.2 ω := by
          intro x6 r h hA11 hB12
          unfold jX6_setFor_112 at h
          refine x_iinc C (k := 4) [(4, .int (a55.2 + (1 : Int32))), (0, .ref (B + oMd)), (1, .int p1), (2, .int b4.1), (3, .int x6)] dX6_setFor_112 rfl rfl (by decide) rfl ?_
          refine x_goto C (tgt := 55) dX6_setFor_115 (by decide) ?_
          cases h
          refine x_sub [1, 2, 3, 4, 0] rfl ?_
          exact hA11 (x6, a55.2 + (1 : Int32)) rfl
        refine x_if_ne C (tgt := 112) dX6_setFor_73 (by decide) (fun hc16 => ?_) (fun hc16 => ?_)
        · rw [if_pos hc16] at h
          exact hJ15 a55.1 _ h hA11 hB12
        · rw [if_neg hc16] at h
          refine x_iload_n C dX6_setFor_76 rfl 3 rfl ?_
          have hJ20 : ∀ (r9 : (Int32 × Int32) ⊕ (Int32)), jX6_setFor_95 p1 a55 b4 = some r9 → (∀ a2, r9 = .inl a2 → (fun (a55 : Int32 × Int32) => X p l e R s m args below meth c 5 cy D B 0 0 Q 55 [(0, .ref (B + oMd)), (1, .int p1), (2, .int b4.1), (3, .int a55.1), (4, .int a55.2)] [] σ b4.2 ω) a2) → (∀ b2, r9 = .inr b2 → (fun (b55 : Int32) => X p l e R s m args below meth c 5 cy D B 0 0 Q 118 [(3, .int b55)] [] σ b4.2 ω) b2) → X p l e R s m args below meth c 5 cy D B 0 0 Q 95 [(0, .ref (B + oMd)), (1, .int p1), (2, .int b4.1), (3, .int a55.1), (4, .int a55.2)] [] σ b4.2 ω := by
            intro r h hA11 hB12
            unfold jX6_setFor_95 at h
            refine x_aload_n C dX6_setFor_95 rfl 0 rfl ?_
            refine x_iload_n C dX6_setFor_96 rfl 1 rfl ?_
            refine x_iload C dX6_setFor_97 4 rfl ?_
            obtain ⟨q7, hk17, h⟩ := Option.bind_eq_some_iff.mp h
            refine x_callV C (As := [.int p1, .int a55.2]) (rest := []) (lw_g_mk tw_1505 rfl) (lw_g_mk tsel_72 rfl) (c_Md) (C1 := "HostelBedsModel") (T := TX6) (N := 27) (ci := 6) rfl (okX6_isEnough l cy D B ek p1 a55.2 σ b4.2 ω _ hk17) rfl rfl (by rw [hR9]; decide) (lw_g_mk tw_1506 rfl) (lw_g_mk tw_7 rfl) (by decide) rfl (lw_g_mk tw_1503 rfl) rfl (Nat.le_of_ble_eq_true rfl) dX6_setFor_99 (by rw [hR9]; decide) ?_
            have hJ18 : ∀ (t8 : Int32) (r9 : (Int32 × Int32) ⊕ (Int32)), jX6_setFor_111 a55 t8 = some r9 → (∀ a2, r9 = .inl a2 → (fun (a55 : Int32 × Int32) => X p l e R s m args below meth c 5 cy D B 0 0 Q 55 [(0, .ref (B + oMd)), (1, .int p1), (2, .int b4.1), (3, .int a55.1), (4, .int a55.2)] [] σ b4.2 ω) a2) → (∀ b2, r9 = .inr b2 → (fun (b55 : Int32) => X p l e R s m args below meth c 5 cy D B 0 0 Q 118 [(3, .int b55)] [] σ b4.2 ω) b2) → X p l e R s m args below meth c 5 cy D B 0 0 Q 111 [(0, .ref (B + oMd)), (1, .int p1), (2, .int b4.1), (4, .int a55.2)] [.int t8] σ b4.2 ω := by
              intro t8 r h hA11 hB12
              unfold jX6_setFor_111 at h
              refine x_istore_n C [(3, .int t8), (0, .ref (B + oMd)), (1, .int p1), (2, .int b4.1), (4, .int a55.2)] dX6_setFor_111 rfl (by decide) rfl ?_
              refine x_sub [1, 2, 3, 0, 4] rfl ?_
              exact hJ15 t8 _ h hA11 hB12
            refine x_if_eq C (tgt := 110) dX6_setFor_102 (by decide) (fun hc19 => ?_) (fun hc19 => ?_)
            · rw [if_pos hc19] at h
              refine x_iload_n C dX6_setFor_110 rfl 3 rfl ?_
              refine x_sub [0, 1, 2, 4] rfl ?_
              exact hJ18 a55.1 _ h hA11 hB12
            · rw [if_neg hc19] at h
              refine x_iload C dX6_setFor_105 4 rfl ?_
              refine x_goto C (tgt := 111) dX6_setFor_107 (by decide) ?_
              refine x_sub [0, 1, 2, 4] rfl ?_
              exact hJ18 a55.2 _ h hA11 hB12
          refine x_if_eq C (tgt := 95) dX6_setFor_77 (by decide) (fun hc21 => ?_) (fun hc21 => ?_)
          · rw [if_pos hc21] at h
            exact hJ20 _ h hA11 hB12
          · rw [if_neg hc21] at h
            refine x_iload C dX6_setFor_80 4 rfl ?_
            obtain ⟨q9, hk22, h⟩ := Option.bind_eq_some_iff.mp h
            refine x_callS C (As := [.int a55.2]) (rest := []) (lw_g_mk tw_1501 rfl) (okX6_many l cy D B ek a55.2 σ b4.2 ω _ hk22) rfl rfl (by rw [hR9]; decide) (lw_g_mk tw_1502 rfl) (lw_g_mk tw_7 rfl) (by decide) rfl (lw_g_mk tw_1500 rfl) rfl (Nat.le_of_ble_eq_true rfl) dX6_setFor_82 (by rw [hR9]; decide) ?_
            refine x_iload_n C dX6_setFor_85 rfl 3 rfl ?_
            obtain ⟨q10, hk23, h⟩ := Option.bind_eq_some_iff.mp h
            refine x_callS C (As := [.int a55.1]) (rest := [.int q9]) (lw_g_mk tw_1501 rfl) (okX6_many l cy D B ek a55.1 σ b4.2 ω _ hk23) rfl rfl (by rw [hR9]; decide) (lw_g_mk tw_1502 rfl) (lw_g_mk tw_7 rfl) (by decide) rfl (lw_g_mk tw_1500 rfl) rfl (Nat.le_of_ble_eq_true rfl) dX6_setFor_86 (by rw [hR9]; decide) ?_
            refine x_icmp_lt C (tgt := 95) dX6_setFor_89 (by decide) (fun hc24 => ?_) (fun hc24 => ?_)
            · rw [if_pos hc24] at h
              exact hJ20 _ h hA11 hB12
            · rw [if_neg hc24] at h
              refine x_goto C (tgt := 112) dX6_setFor_92 (by decide) ?_
              exact hJ15 a55.1 _ h hA11 hB12
    · show X p l e R s m args below meth c 5 cy D B 0 0 Q 118 [(3, .int b55)] [] σ b4.2 ω
      refine x_iload_n C dX6_setFor_118 rfl 0 rfl ?_
      refine x_if_ne C (tgt := 126) dX6_setFor_119 (by decide) (fun hc26 => ?_) (fun hc26 => ?_)
      · rw [if_pos hc26] at h
        refine x_iload_n C dX6_setFor_126 rfl 0 rfl ?_
        cases h
        exact hret _ _ dX6_setFor_127 rfl
      · rw [if_neg hc26] at h
        refine x_iconst C (v := -1) dX6_setFor_122 (by decide) ?_
        refine x_goto C (tgt := 127) dX6_setFor_123 (by decide) ?_
        cases h
        exact hret _ _ dX6_setFor_127 rfl
def jX6_takes_59 (a28 : Int32 × Mem) (μ2 : Mem) : Option ((Int32 × Mem) ⊕ (Mem)) := (some (.inl (a28.1 + (1 : Int32), μ2)))
def stX6_takes_28 (p1 : Int32) (p3 : Int32) (p4 : Int32) (a28 : Int32 × Mem) : Option ((Int32 × Mem) ⊕ (Mem)) := (if (30 : Int32) ≤ a28.1 then (some (.inr a28.2)) else ((fX6_staysIn p1 a28.1 a28.2).bind fun q1 => (if q1 = 0 then (jX6_takes_59 a28 a28.2) else ((fX6_spot p3 p4 a28.1).bind fun q3 => (gd (inb q3 2400) (jX6_takes_59 a28 (wI a28.2 76 0 q3.toNatClampNeg p1)))))))
def fX6_takes (p1 : Int32) (p2 : Int32) (p3 : Int32) (p4 : Int32) (μ : Mem) : Option (Mem) := (gd (inb (((12 : Int32) * p1) + p2) 204) ((loop (stX6_takes_28 p1 p3 p4) 5000 ((0 : Int32), wI (wI μ 78 0 (((12 : Int32) * p1) + p2).toNatClampNeg p3) 79 0 (((12 : Int32) * p1) + p2).toNatClampNeg p4)).bind fun b28 => (some b28)))
set_option maxHeartbeats 4000000 in
set_option maxRecDepth 100000 in
theorem okX6_takes (l : Launch) (cy : Nat → ClassId) (D : va_G) (B : Nat) (ek : EK) (p1 : Int32) (p2 : Int32) (p3 : Int32) (p4 : Int32) (σ μ ω : Mem) (res : Mem) (h : fX6_takes p1 p2 p3 p4 μ = some res) : CT l cy D B ek yX6_takes cX6_takes 6 none ({ frames := 3, cells := 0, slots := 0, locals := 65 } : Room) [.ref (B + oMd), .int p1, .int p2, .int p3, .int p4] σ μ ω none σ res ω := by
  refine met_X (own := "HostelBedsModel") (by decide) rfl (Nat.le_of_ble_eq_true rfl) ?_
  intro p e s m args below meth c C hrT hlk
  have hret : ∀ (pc9 : Nat) (lcs9 : List (Nat × Value)), decode cX6_takes pc9 = .ok (.return_, 1) → X p l e ({ frames := 3, cells := 0, slots := 0, locals := 65 } : Room) s m args below meth c 6 cy D B 0 0 (MQ below (QR cy D B none σ res ω) args s 0 0 (aB B)) pc9 lcs9 [] σ res ω := fun _ _ hd => x_vret C hrT hlk hd
  generalize (MQ below (QR cy D B none σ res ω) args s 0 0 (aB B)) = Q at hret ⊢
  obtain ⟨R, hR9⟩ : ∃ R : Room, R = ({ frames := 3, cells := 0, slots := 0, locals := 65 } : Room) := ⟨_, rfl⟩
  rw [← hR9] at hret ⊢
  unfold fX6_takes at h
  show X p l e R s m args below meth c 6 cy D B 0 0 Q 0 [(0, .ref (B + oMd)), (1, .int p1), (2, .int p2), (3, .int p3), (4, .int p4)] [] σ μ ω
  refine x_aload_n C dX6_takes_0 rfl 0 rfl ?_
  refine x_get C (C1 := "HostelBedsModel") (T := TX6) (N := 27) (ci := 6) inXg6 _ (c_Md) rfl 23 (by decide) (lw_g_mk tw_1154 rfl) rfl dX6_takes_1 ?_
  refine x_bipush C (v := 12) dX6_takes_4 (by decide) ?_
  refine x_iload_n C dX6_takes_6 rfl 1 rfl ?_
  refine x_imul C dX6_takes_7 ?_
  refine x_iload_n C dX6_takes_8 rfl 2 rfl ?_
  refine x_iadd C dX6_takes_9 ?_
  refine x_iload_n C dX6_takes_10 rfl 3 rfl ?_
  obtain ⟨hg1, h⟩ := gd_some h
  refine x_iast C _ (c_SIn) hg1 dX6_takes_11 (s_SIn) ?_
  refine x_aload_n C dX6_takes_12 rfl 0 rfl ?_
  refine x_get C (C1 := "HostelBedsModel") (T := TX6) (N := 27) (ci := 6) inXg6 _ (c_Md) rfl 24 (by decide) (lw_g_mk tw_1155 rfl) rfl dX6_takes_13 ?_
  refine x_bipush C (v := 12) dX6_takes_16 (by decide) ?_
  refine x_iload_n C dX6_takes_18 rfl 1 rfl ?_
  refine x_imul C dX6_takes_19 ?_
  refine x_iload_n C dX6_takes_20 rfl 2 rfl ?_
  refine x_iadd C dX6_takes_21 ?_
  refine x_iload C dX6_takes_22 4 rfl ?_
  refine x_iast C _ (c_SOn) hg1 dX6_takes_24 (s_SOn) ?_
  refine x_iconst C (v := 0) dX6_takes_25 (by decide) ?_
  refine x_istore C [(5, .int (0 : Int32)), (0, .ref (B + oMd)), (1, .int p1), (2, .int p2), (3, .int p3), (4, .int p4)] dX6_takes_26 (by decide) rfl ?_
  obtain ⟨b28, hk10, h⟩ := Option.bind_eq_some_iff.mp h
  refine x_sub [1, 2, 4, 5, 0] rfl ?_
  refine loop_run (step := stX6_takes_28 p1 p3 p4) (P := fun (a28 : Int32 × Mem) => X p l e R s m args below meth c 6 cy D B 0 0 Q 28 [(0, .ref (B + oMd)), (1, .int p1), (3, .int p3), (4, .int p4), (5, .int a28.1)] [] σ a28.2 ω) (K := fun (b28 : Mem) => X p l e R s m args below meth c 6 cy D B 0 0 Q 65 [] [] σ b28 ω) ?_ 5000 ((0 : Int32), wI (wI μ 78 0 (((12 : Int32) * p1) + p2).toNatClampNeg p3) 79 0 (((12 : Int32) * p1) + p2).toNatClampNeg p4) b28 hk10 ?_
  · intro a28 r h hA2 hB3
    unfold stX6_takes_28 at h
    refine x_iload C dX6_takes_28 4 rfl ?_
    refine x_bipush C (v := 30) dX6_takes_30 (by decide) ?_
    refine x_icmp_ge C (tgt := 65) dX6_takes_32 (by decide) (fun hc4 => ?_) (fun hc4 => ?_)
    · rw [if_pos hc4] at h
      cases h
      refine x_sub [] rfl ?_
      exact hB3 a28.2 rfl
    · rw [if_neg hc4] at h
      refine x_aload_n C dX6_takes_35 rfl 0 rfl ?_
      refine x_iload_n C dX6_takes_36 rfl 1 rfl ?_
      refine x_iload C dX6_takes_37 4 rfl ?_
      obtain ⟨q1, hk5, h⟩ := Option.bind_eq_some_iff.mp h
      refine x_callV C (As := [.int p1, .int a28.1]) (rest := []) (lw_g_mk tw_1363 rfl) (lw_g_mk tsel_47 rfl) (c_Md) (C1 := "HostelBedsModel") (T := TX6) (N := 27) (ci := 6) rfl (okX6_staysIn l cy D B ek p1 a28.1 σ a28.2 ω _ hk5) rfl rfl (by rw [hR9]; decide) (lw_g_mk tw_1364 rfl) (lw_g_mk tw_7 rfl) (by decide) rfl (lw_g_mk tw_1361 rfl) rfl (Nat.le_of_ble_eq_true rfl) dX6_takes_39 (by rw [hR9]; decide) ?_
      have hJ6 : ∀ (μ2 : Mem) (r9 : (Int32 × Mem) ⊕ (Mem)), jX6_takes_59 a28 μ2 = some r9 → (∀ a2, r9 = .inl a2 → (fun (a28 : Int32 × Mem) => X p l e R s m args below meth c 6 cy D B 0 0 Q 28 [(0, .ref (B + oMd)), (1, .int p1), (3, .int p3), (4, .int p4), (5, .int a28.1)] [] σ a28.2 ω) a2) → (∀ b2, r9 = .inr b2 → (fun (b28 : Mem) => X p l e R s m args below meth c 6 cy D B 0 0 Q 65 [] [] σ b28 ω) b2) → X p l e R s m args below meth c 6 cy D B 0 0 Q 59 [(0, .ref (B + oMd)), (1, .int p1), (3, .int p3), (4, .int p4), (5, .int a28.1)] [] σ μ2 ω := by
        intro μ2 r h hA2 hB3
        unfold jX6_takes_59 at h
        refine x_iinc C (k := 4) [(5, .int (a28.1 + (1 : Int32))), (0, .ref (B + oMd)), (1, .int p1), (3, .int p3), (4, .int p4)] dX6_takes_59 rfl rfl (by decide) rfl ?_
        refine x_goto C (tgt := 28) dX6_takes_62 (by decide) ?_
        cases h
        refine x_sub [1, 2, 3, 4, 0] rfl ?_
        exact hA2 (a28.1 + (1 : Int32), μ2) rfl
      refine x_if_eq C (tgt := 59) dX6_takes_42 (by decide) (fun hc7 => ?_) (fun hc7 => ?_)
      · rw [if_pos hc7] at h
        exact hJ6 a28.2 _ h hA2 hB3
      · rw [if_neg hc7] at h
        refine x_aload_n C dX6_takes_45 rfl 0 rfl ?_
        refine x_get C (C1 := "HostelBedsModel") (T := TX6) (N := 27) (ci := 6) inXg6 _ (c_Md) rfl 21 (by decide) (lw_g_mk tw_1152 rfl) rfl dX6_takes_46 ?_
        refine x_iload_n C dX6_takes_49 rfl 2 rfl ?_
        refine x_iload C dX6_takes_50 3 rfl ?_
        refine x_iload C dX6_takes_52 4 rfl ?_
        obtain ⟨q3, hk8, h⟩ := Option.bind_eq_some_iff.mp h
        refine x_callS C (As := [.int p3, .int p4, .int a28.1]) (rest := [.ref (B + oHold)]) (lw_g_mk tw_1482 rfl) (okX6_spot l cy D B ek p3 p4 a28.1 σ a28.2 ω _ hk8) rfl rfl (by rw [hR9]; decide) (lw_g_mk tw_1483 rfl) (lw_g_mk tw_7 rfl) (by decide) rfl (lw_g_mk tw_1481 rfl) rfl (Nat.le_of_ble_eq_true rfl) dX6_takes_54 (by rw [hR9]; decide) ?_
        refine x_iload_n C dX6_takes_57 rfl 1 rfl ?_
        obtain ⟨hg9, h⟩ := gd_some h
        refine x_iast C _ (c_Hold) hg9 dX6_takes_58 (s_Hold) ?_
        exact hJ6 (wI a28.2 76 0 q3.toNatClampNeg p1) _ h hA2 hB3
  · show X p l e R s m args below meth c 6 cy D B 0 0 Q 65 [] [] σ b28 ω
    cases h
    exact hret _ _ dX6_takes_65
def jX6_sleeps_85 (a3 : Int32) : Option ((Int32) ⊕ ((Unit) ⊕ (Int32 × Mem))) := (some (.inl (a3 + (1 : Int32))))
def stX6_sleeps_40 (a3 : Int32) (μ : Mem) (p1 : Int32) (p2 : Int32) (a40 : Int32) : Option ((Int32) ⊕ ((Unit) ⊕ (Int32 × Mem))) := ((fX6_roomIs a3 (1 : Int32) μ).bind fun q3 => (if q3 ≤ a40 then (some (.inr (.inl ()))) else ((fX6_isFreeFor p1 a3 a40 μ).bind fun q4 => (if ¬ q4 = 0 then ((fX6_takes p1 p2 a3 a40 μ).bind fun q5 => (some (.inr (.inr ((1 : Int32), q5))))) else (some (.inl (a40 + (1 : Int32))))))))
def stX6_sleeps_3 (μ : Mem) (p4 : Int32) (p3 : Int32) (p1 : Int32) (p2 : Int32) (a3 : Int32) : Option ((Int32) ⊕ ((Unit) ⊕ (Int32 × Mem))) := ((fX6_get (4 : Int32) μ).bind fun q1 => (if q1 ≤ a3 then (some (.inr (.inl ()))) else (if ((p4 >>> (a3 &&& 31)) &&& (1 : Int32)) = 0 then (jX6_sleeps_85 a3) else ((fX6_roomIs a3 (0 : Int32) μ).bind fun q2 => (if q2 = p3 then ((loop (stX6_sleeps_40 a3 μ p1 p2) 5000 ((0 : Int32))).bind fun b40 => Sum.elim (fun z40 => (jX6_sleeps_85 a3)) (fun w40 => (some (.inr (.inr w40)))) b40) else (jX6_sleeps_85 a3))))))
def fX6_sleeps (p1 : Int32) (p2 : Int32) (p3 : Int32) (p4 : Int32) (μ : Mem) : Option (Int32 × Mem) := ((loop (stX6_sleeps_3 μ p4 p3 p1 p2) 5000 ((0 : Int32))).bind fun b3 => Sum.elim (fun z3 => (some ((0 : Int32), μ))) (fun w3 => (some w3)) b3)
set_option maxHeartbeats 4000000 in
set_option maxRecDepth 100000 in
theorem okX6_sleeps (l : Launch) (cy : Nat → ClassId) (D : va_G) (B : Nat) (ek : EK) (p1 : Int32) (p2 : Int32) (p3 : Int32) (p4 : Int32) (σ μ ω : Mem) (res : Int32 × Mem) (h : fX6_sleeps p1 p2 p3 p4 μ = some res) : CT l cy D B ek yX6_sleeps cX6_sleeps 7 (some .boolean) ({ frames := 4, cells := 0, slots := 0, locals := 90 } : Room) [.ref (B + oMd), .int p1, .int p2, .int p3, .int p4] σ μ ω (some (.int res.1)) σ res.2 ω := by
  refine met_X (own := "HostelBedsModel") (by decide) rfl (Nat.le_of_ble_eq_true rfl) ?_
  intro p e s m args below meth c C hrT hlk
  have hret : ∀ (pc9 : Nat) (lcs9 : List (Nat × Value)), decode cX6_sleeps pc9 = .ok (.ireturn, 1) → narrow .boolean (.int res.1) = .int res.1 → X p l e ({ frames := 4, cells := 0, slots := 0, locals := 90 } : Room) s m args below meth c 7 cy D B 0 0 (MQ below (QR cy D B (some (.int res.1)) σ res.2 ω) args s 0 0 (aB B)) pc9 lcs9 [.int res.1] σ res.2 ω := fun _ _ hd hn => x_zret C hrT hlk hn hd
  generalize (MQ below (QR cy D B (some (.int res.1)) σ res.2 ω) args s 0 0 (aB B)) = Q at hret ⊢
  obtain ⟨R, hR9⟩ : ∃ R : Room, R = ({ frames := 4, cells := 0, slots := 0, locals := 90 } : Room) := ⟨_, rfl⟩
  rw [← hR9] at hret ⊢
  unfold fX6_sleeps at h
  show X p l e R s m args below meth c 7 cy D B 0 0 Q 0 [(0, .ref (B + oMd)), (1, .int p1), (2, .int p2), (3, .int p3), (4, .int p4)] [] σ μ ω
  refine x_iconst C (v := 0) dX6_sleeps_0 (by decide) ?_
  refine x_istore C [(5, .int (0 : Int32)), (0, .ref (B + oMd)), (1, .int p1), (2, .int p2), (3, .int p3), (4, .int p4)] dX6_sleeps_1 (by decide) rfl ?_
  obtain ⟨b3, hk17, h⟩ := Option.bind_eq_some_iff.mp h
  refine x_sub [1, 2, 3, 4, 5, 0] rfl ?_
  refine loop_run (step := stX6_sleeps_3 μ p4 p3 p1 p2) (P := fun (a3 : Int32) => X p l e R s m args below meth c 7 cy D B 0 0 Q 3 [(0, .ref (B + oMd)), (1, .int p1), (2, .int p2), (3, .int p3), (4, .int p4), (5, .int a3)] [] σ μ ω) (K := fun (b3 : (Unit) ⊕ (Int32 × Mem)) => Sum.elim (fun z3 => X p l e R s m args below meth c 7 cy D B 0 0 Q 91 [] [] σ μ ω) (fun w3 => ∀ (pc9 : Nat) (lcs9 : List (Nat × Value)), decode cX6_sleeps pc9 = .ok (.ireturn, 1) → narrow .boolean (.int w3.1) = .int w3.1 → X p l e R s m args below meth c 7 cy D B 0 0 Q pc9 lcs9 [.int w3.1] σ w3.2 ω) b3) ?_ 5000 ((0 : Int32)) b3 hk17 ?_
  · intro a3 r h hA1 hB2
    unfold stX6_sleeps_3 at h
    refine x_iload C dX6_sleeps_3 5 rfl ?_
    refine x_aload_n C dX6_sleeps_5 rfl 0 rfl ?_
    refine x_iconst C (v := 4) dX6_sleeps_6 (by decide) ?_
    obtain ⟨q1, hk3, h⟩ := Option.bind_eq_some_iff.mp h
    refine x_callV C (As := [.int (4 : Int32)]) (rest := [.int a3]) (lw_g_mk tw_1296 rfl) (lw_g_mk tsel_31 rfl) (c_Md) (C1 := "HostelBedsModel") (T := TX6) (N := 27) (ci := 6) rfl (okX6_get l cy D B ek (4 : Int32) σ μ ω _ hk3) rfl rfl (by rw [hR9]; decide) (lw_g_mk tw_1297 rfl) (lw_g_mk tw_7 rfl) (by decide) rfl (lw_g_mk tw_1294 rfl) rfl (Nat.le_of_ble_eq_true rfl) dX6_sleeps_7 (by rw [hR9]; decide) ?_
    refine x_icmp_ge C (tgt := 91) dX6_sleeps_10 (by decide) (fun hc4 => ?_) (fun hc4 => ?_)
    · rw [if_pos hc4] at h
      cases h
      refine x_sub [] rfl ?_
      exact hB2 (.inl ()) rfl
    · rw [if_neg hc4] at h
      refine x_iload C dX6_sleeps_13 4 rfl ?_
      refine x_iload C dX6_sleeps_15 5 rfl ?_
      refine x_ishr C dX6_sleeps_17 ?_
      refine x_iconst C (v := 1) dX6_sleeps_18 (by decide) ?_
      refine x_iand C dX6_sleeps_19 ?_
      have hJ5 : ∀ (r9 : (Int32) ⊕ ((Unit) ⊕ (Int32 × Mem))), jX6_sleeps_85 a3 = some r9 → (∀ a2, r9 = .inl a2 → (fun (a3 : Int32) => X p l e R s m args below meth c 7 cy D B 0 0 Q 3 [(0, .ref (B + oMd)), (1, .int p1), (2, .int p2), (3, .int p3), (4, .int p4), (5, .int a3)] [] σ μ ω) a2) → (∀ b2, r9 = .inr b2 → (fun (b3 : (Unit) ⊕ (Int32 × Mem)) => Sum.elim (fun z3 => X p l e R s m args below meth c 7 cy D B 0 0 Q 91 [] [] σ μ ω) (fun w3 => ∀ (pc9 : Nat) (lcs9 : List (Nat × Value)), decode cX6_sleeps pc9 = .ok (.ireturn, 1) → narrow .boolean (.int w3.1) = .int w3.1 → X p l e R s m args below meth c 7 cy D B 0 0 Q pc9 lcs9 [.int w3.1] σ w3.2 ω) b3) b2) → X p l e R s m args below meth c 7 cy D B 0 0 Q 85 [(0, .ref (B + oMd)), (1, .int p1), (2, .int p2), (3, .int p3), (4, .int p4), (5, .int a3)] [] σ μ ω := by
        intro r h hA1 hB2
        unfold jX6_sleeps_85 at h
        refine x_iinc C (k := 5) [(5, .int (a3 + (1 : Int32))), (0, .ref (B + oMd)), (1, .int p1), (2, .int p2), (3, .int p3), (4, .int p4)] dX6_sleeps_85 rfl rfl (by decide) rfl ?_
        refine x_goto C (tgt := 3) dX6_sleeps_88 (by decide) ?_
        cases h
        refine x_sub [1, 2, 3, 4, 5, 0] rfl ?_
        exact hA1 (a3 + (1 : Int32)) rfl
      refine x_if_eq C (tgt := 85) dX6_sleeps_20 (by decide) (fun hc6 => ?_) (fun hc6 => ?_)
      · rw [if_pos hc6] at h
        exact hJ5 _ h hA1 hB2
      · rw [if_neg hc6] at h
        refine x_aload_n C dX6_sleeps_23 rfl 0 rfl ?_
        refine x_iload C dX6_sleeps_24 5 rfl ?_
        refine x_iconst C (v := 0) dX6_sleeps_26 (by decide) ?_
        obtain ⟨q2, hk7, h⟩ := Option.bind_eq_some_iff.mp h
        refine x_callV C (As := [.int a3, .int (0 : Int32)]) (rest := []) (lw_g_mk tw_1359 rfl) (lw_g_mk tsel_46 rfl) (c_Md) (C1 := "HostelBedsModel") (T := TX6) (N := 27) (ci := 6) rfl (okX6_roomIs l cy D B ek a3 (0 : Int32) σ μ ω _ hk7) rfl rfl (by rw [hR9]; decide) (lw_g_mk tw_1360 rfl) (lw_g_mk tw_7 rfl) (by decide) rfl (lw_g_mk tw_1357 rfl) rfl (Nat.le_of_ble_eq_true rfl) dX6_sleeps_27 (by rw [hR9]; decide) ?_
        refine x_iload_n C dX6_sleeps_30 rfl 3 rfl ?_
        refine x_icmp_eq C (tgt := 37) dX6_sleeps_31 (by decide) (fun hc8 => ?_) (fun hc8 => ?_)
        · rw [if_pos hc8] at h
          refine x_iconst C (v := 0) dX6_sleeps_37 (by decide) ?_
          refine x_istore C [(6, .int (0 : Int32)), (0, .ref (B + oMd)), (1, .int p1), (2, .int p2), (3, .int p3), (4, .int p4), (5, .int a3)] dX6_sleeps_38 (by decide) rfl ?_
          obtain ⟨b40, hk16, h⟩ := Option.bind_eq_some_iff.mp h
          refine x_sub [1, 2, 3, 4, 5, 6, 0] rfl ?_
          refine loop_run (step := stX6_sleeps_40 a3 μ p1 p2) (P := fun (a40 : Int32) => X p l e R s m args below meth c 7 cy D B 0 0 Q 40 [(0, .ref (B + oMd)), (1, .int p1), (2, .int p2), (3, .int p3), (4, .int p4), (5, .int a3), (6, .int a40)] [] σ μ ω) (K := fun (b40 : (Unit) ⊕ (Int32 × Mem)) => Sum.elim (fun z40 => X p l e R s m args below meth c 7 cy D B 0 0 Q 85 [(0, .ref (B + oMd)), (1, .int p1), (2, .int p2), (3, .int p3), (4, .int p4), (5, .int a3)] [] σ μ ω) (fun w40 => ∀ (pc9 : Nat) (lcs9 : List (Nat × Value)), decode cX6_sleeps pc9 = .ok (.ireturn, 1) → narrow .boolean (.int w40.1) = .int w40.1 → X p l e R s m args below meth c 7 cy D B 0 0 Q pc9 lcs9 [.int w40.1] σ w40.2 ω) b40) ?_ 5000 ((0 : Int32)) b40 hk16 ?_
          · intro a40 r h hA9 hB10
            unfold stX6_sleeps_40 at h
            refine x_iload C dX6_sleeps_40 6 rfl ?_
            refine x_aload_n C dX6_sleeps_42 rfl 0 rfl ?_
            refine x_iload C dX6_sleeps_43 5 rfl ?_
            refine x_iconst C (v := 1) dX6_sleeps_45 (by decide) ?_
            obtain ⟨q3, hk11, h⟩ := Option.bind_eq_some_iff.mp h
            refine x_callV C (As := [.int a3, .int (1 : Int32)]) (rest := [.int a40]) (lw_g_mk tw_1359 rfl) (lw_g_mk tsel_46 rfl) (c_Md) (C1 := "HostelBedsModel") (T := TX6) (N := 27) (ci := 6) rfl (okX6_roomIs l cy D B ek a3 (1 : Int32) σ μ ω _ hk11) rfl rfl (by rw [hR9]; decide) (lw_g_mk tw_1360 rfl) (lw_g_mk tw_7 rfl) (by decide) rfl (lw_g_mk tw_1357 rfl) rfl (Nat.le_of_ble_eq_true rfl) dX6_sleeps_46 (by rw [hR9]; decide) ?_
            refine x_icmp_ge C (tgt := 85) dX6_sleeps_49 (by decide) (fun hc12 => ?_) (fun hc12 => ?_)
            · rw [if_pos hc12] at h
              cases h
              refine x_sub [0, 1, 2, 3, 4, 5] rfl ?_
              exact hB10 (.inl ()) rfl
            · rw [if_neg hc12] at h
              refine x_aload_n C dX6_sleeps_52 rfl 0 rfl ?_
              refine x_iload_n C dX6_sleeps_53 rfl 1 rfl ?_
              refine x_iload C dX6_sleeps_54 5 rfl ?_
              refine x_iload C dX6_sleeps_56 6 rfl ?_
              obtain ⟨q4, hk13, h⟩ := Option.bind_eq_some_iff.mp h
              refine x_callV C (As := [.int p1, .int a3, .int a40]) (rest := []) (lw_g_mk tw_1479 rfl) (lw_g_mk tsel_67 rfl) (c_Md) (C1 := "HostelBedsModel") (T := TX6) (N := 27) (ci := 6) rfl (okX6_isFreeFor l cy D B ek p1 a3 a40 σ μ ω _ hk13) rfl rfl (by rw [hR9]; decide) (lw_g_mk tw_1480 rfl) (lw_g_mk tw_7 rfl) (by decide) rfl (lw_g_mk tw_1477 rfl) rfl (Nat.le_of_ble_eq_true rfl) dX6_sleeps_58 (by rw [hR9]; decide) ?_
              refine x_if_ne C (tgt := 67) dX6_sleeps_61 (by decide) (fun hc14 => ?_) (fun hc14 => ?_)
              · rw [if_pos hc14] at h
                refine x_aload_n C dX6_sleeps_67 rfl 0 rfl ?_
                refine x_iload_n C dX6_sleeps_68 rfl 1 rfl ?_
                refine x_iload_n C dX6_sleeps_69 rfl 2 rfl ?_
                refine x_iload C dX6_sleeps_70 5 rfl ?_
                refine x_iload C dX6_sleeps_72 6 rfl ?_
                obtain ⟨q5, hk15, h⟩ := Option.bind_eq_some_iff.mp h
                refine x_callV C (As := [.int p1, .int p2, .int a3, .int a40]) (rest := []) (lw_g_mk tw_1494 rfl) (lw_g_mk tsel_70 rfl) (c_Md) (C1 := "HostelBedsModel") (T := TX6) (N := 27) (ci := 6) rfl (okX6_takes l cy D B ek p1 p2 a3 a40 σ μ ω _ hk15) rfl rfl (by rw [hR9]; decide) (lw_g_mk tw_1495 rfl) (lw_g_mk tw_7 rfl) (by decide) rfl (lw_g_mk tw_1492 rfl) rfl (Nat.le_of_ble_eq_true rfl) dX6_sleeps_74 (by rw [hR9]; decide) ?_
                refine x_iconst C (v := 1) dX6_sleeps_77 (by decide) ?_
                cases h
                exact hB10 (.inr ((1 : Int32), q5)) rfl _ _ dX6_sleeps_78 (nar_Z (Or.inr rfl))
              · rw [if_neg hc14] at h
                refine x_goto C (tgt := 79) dX6_sleeps_64 (by decide) ?_
                refine x_iinc C (k := 6) [(6, .int (a40 + (1 : Int32))), (0, .ref (B + oMd)), (1, .int p1), (2, .int p2), (3, .int p3), (4, .int p4), (5, .int a3)] dX6_sleeps_79 rfl rfl (by decide) rfl ?_
                refine x_goto C (tgt := 40) dX6_sleeps_82 (by decide) ?_
                cases h
                refine x_sub [1, 2, 3, 4, 5, 6, 0] rfl ?_
                exact hA9 (a40 + (1 : Int32)) rfl
          · rcases b40 with z40 | w40
            · rw [Sum.elim_inl] at h
              show X p l e R s m args below meth c 7 cy D B 0 0 Q 85 [(0, .ref (B + oMd)), (1, .int p1), (2, .int p2), (3, .int p3), (4, .int p4), (5, .int a3)] [] σ μ ω
              exact hJ5 _ h hA1 hB2
            · rw [Sum.elim_inr] at h
              show ∀ (pc9 : Nat) (lcs9 : List (Nat × Value)), decode cX6_sleeps pc9 = .ok (.ireturn, 1) → narrow .boolean (.int w40.1) = .int w40.1 → X p l e R s m args below meth c 7 cy D B 0 0 Q pc9 lcs9 [.int w40.1] σ w40.2 ω
              cases h
              exact hB2 (.inr w40) rfl
        · rw [if_neg hc8] at h
          refine x_goto C (tgt := 85) dX6_sleeps_34 (by decide) ?_
          exact hJ5 _ h hA1 hB2
  · rcases b3 with z3 | w3
    · rw [Sum.elim_inl] at h
      show X p l e R s m args below meth c 7 cy D B 0 0 Q 91 [] [] σ μ ω
      refine x_iconst C (v := 0) dX6_sleeps_91 (by decide) ?_
      cases h
      exact hret _ _ dX6_sleeps_92 (nar_Z (Or.inl rfl))
    · rw [Sum.elim_inr] at h
      show ∀ (pc9 : Nat) (lcs9 : List (Nat × Value)), decode cX6_sleeps pc9 = .ok (.ireturn, 1) → narrow .boolean (.int w3.1) = .int w3.1 → X p l e R s m args below meth c 7 cy D B 0 0 Q pc9 lcs9 [.int w3.1] σ w3.2 ω
      cases h
      exact hret
def jX6_givesBeds_50 (a2 : Int32 × Mem) (μ5 : Mem) : Option ((Int32 × Mem) ⊕ (Mem)) := (some (.inl (a2.1 + (1 : Int32), μ5)))
def jX6_givesBeds_29 (p1 : Int32) (a2 : Int32 × Mem) (p2 : Int32) (t3 : Int32) : Option ((Int32 × Mem) ⊕ (Mem)) := ((fX6_sleeps p1 a2.1 t3 p2 a2.2).bind fun q4 => (if ¬ q4.1 = 0 then (jX6_givesBeds_50 a2 q4.2) else ((fX6_sleeps p1 a2.1 (0 : Int32) p2 q4.2).bind fun q6 => (jX6_givesBeds_50 a2 q6.2))))
def stX6_givesBeds_2 (p1 : Int32) (p2 : Int32) (a2 : Int32 × Mem) : Option ((Int32 × Mem) ⊕ (Mem)) := ((fX6_persons p1 a2.2).bind fun q1 => (if q1 ≤ a2.1 then (some (.inr a2.2)) else ((fX6_of p1 (2 : Int32) a2.2).bind fun q2 => (if q2 ≤ a2.1 then (jX6_givesBeds_29 p1 a2 p2 (2 : Int32)) else (jX6_givesBeds_29 p1 a2 p2 (1 : Int32))))))
def fX6_givesBeds (p1 : Int32) (p2 : Int32) (μ : Mem) : Option (Mem) := ((loop (stX6_givesBeds_2 p1 p2) 5000 ((0 : Int32), μ)).bind fun b2 => (some b2))
set_option maxHeartbeats 4000000 in
set_option maxRecDepth 100000 in
theorem okX6_givesBeds (l : Launch) (cy : Nat → ClassId) (D : va_G) (B : Nat) (ek : EK) (p1 : Int32) (p2 : Int32) (σ μ ω : Mem) (res : Mem) (h : fX6_givesBeds p1 p2 μ = some res) : CT l cy D B ek yX6_givesBeds cX6_givesBeds 5 none ({ frames := 5, cells := 0, slots := 0, locals := 116 } : Room) [.ref (B + oMd), .int p1, .int p2] σ μ ω none σ res ω := by
  refine met_X (own := "HostelBedsModel") (by decide) rfl (Nat.le_of_ble_eq_true rfl) ?_
  intro p e s m args below meth c C hrT hlk
  have hret : ∀ (pc9 : Nat) (lcs9 : List (Nat × Value)), decode cX6_givesBeds pc9 = .ok (.return_, 1) → X p l e ({ frames := 5, cells := 0, slots := 0, locals := 116 } : Room) s m args below meth c 5 cy D B 0 0 (MQ below (QR cy D B none σ res ω) args s 0 0 (aB B)) pc9 lcs9 [] σ res ω := fun _ _ hd => x_vret C hrT hlk hd
  generalize (MQ below (QR cy D B none σ res ω) args s 0 0 (aB B)) = Q at hret ⊢
  obtain ⟨R, hR9⟩ : ∃ R : Room, R = ({ frames := 5, cells := 0, slots := 0, locals := 116 } : Room) := ⟨_, rfl⟩
  rw [← hR9] at hret ⊢
  unfold fX6_givesBeds at h
  show X p l e R s m args below meth c 5 cy D B 0 0 Q 0 [(0, .ref (B + oMd)), (1, .int p1), (2, .int p2)] [] σ μ ω
  refine x_iconst C (v := 0) dX6_givesBeds_0 (by decide) ?_
  refine x_istore_n C [(3, .int (0 : Int32)), (0, .ref (B + oMd)), (1, .int p1), (2, .int p2)] dX6_givesBeds_1 rfl (by decide) rfl ?_
  obtain ⟨b2, hk12, h⟩ := Option.bind_eq_some_iff.mp h
  refine x_sub [1, 2, 3, 0] rfl ?_
  refine loop_run (step := stX6_givesBeds_2 p1 p2) (P := fun (a2 : Int32 × Mem) => X p l e R s m args below meth c 5 cy D B 0 0 Q 2 [(0, .ref (B + oMd)), (1, .int p1), (2, .int p2), (3, .int a2.1)] [] σ a2.2 ω) (K := fun (b2 : Mem) => X p l e R s m args below meth c 5 cy D B 0 0 Q 56 [] [] σ b2 ω) ?_ 5000 ((0 : Int32), μ) b2 hk12 ?_
  · intro a2 r h hA1 hB2
    unfold stX6_givesBeds_2 at h
    refine x_iload_n C dX6_givesBeds_2 rfl 3 rfl ?_
    refine x_aload_n C dX6_givesBeds_3 rfl 0 rfl ?_
    refine x_iload_n C dX6_givesBeds_4 rfl 1 rfl ?_
    obtain ⟨q1, hk3, h⟩ := Option.bind_eq_some_iff.mp h
    refine x_callV C (As := [.int p1]) (rest := [.int a2.1]) (lw_g_mk tw_1375 rfl) (lw_g_mk tsel_50 rfl) (c_Md) (C1 := "HostelBedsModel") (T := TX6) (N := 27) (ci := 6) rfl (okX6_persons l cy D B ek p1 σ a2.2 ω _ hk3) rfl rfl (by rw [hR9]; decide) (lw_g_mk tw_1376 rfl) (lw_g_mk tw_7 rfl) (by decide) rfl (lw_g_mk tw_1373 rfl) rfl (Nat.le_of_ble_eq_true rfl) dX6_givesBeds_5 (by rw [hR9]; decide) ?_
    refine x_icmp_ge C (tgt := 56) dX6_givesBeds_8 (by decide) (fun hc4 => ?_) (fun hc4 => ?_)
    · rw [if_pos hc4] at h
      cases h
      refine x_sub [] rfl ?_
      exact hB2 a2.2 rfl
    · rw [if_neg hc4] at h
      refine x_aload_n C dX6_givesBeds_11 rfl 0 rfl ?_
      refine x_iload_n C dX6_givesBeds_12 rfl 1 rfl ?_
      refine x_iload_n C dX6_givesBeds_13 rfl 3 rfl ?_
      refine x_iload_n C dX6_givesBeds_14 rfl 3 rfl ?_
      refine x_aload_n C dX6_givesBeds_15 rfl 0 rfl ?_
      refine x_iload_n C dX6_givesBeds_16 rfl 1 rfl ?_
      refine x_iconst C (v := 2) dX6_givesBeds_17 (by decide) ?_
      obtain ⟨q2, hk5, h⟩ := Option.bind_eq_some_iff.mp h
      refine x_callV C (As := [.int p1, .int (2 : Int32)]) (rest := [.int a2.1, .int a2.1, .int p1, .ref (B + oMd)]) (lw_g_mk tw_1367 rfl) (lw_g_mk tsel_48 rfl) (c_Md) (C1 := "HostelBedsModel") (T := TX6) (N := 27) (ci := 6) rfl (okX6_of l cy D B ek p1 (2 : Int32) σ a2.2 ω _ hk5) rfl rfl (by rw [hR9]; decide) (lw_g_mk tw_1368 rfl) (lw_g_mk tw_7 rfl) (by decide) rfl (lw_g_mk tw_1365 rfl) rfl (Nat.le_of_ble_eq_true rfl) dX6_givesBeds_18 (by rw [hR9]; decide) ?_
      have hJ10 : ∀ (t3 : Int32) (r9 : (Int32 × Mem) ⊕ (Mem)), jX6_givesBeds_29 p1 a2 p2 t3 = some r9 → (∀ a2, r9 = .inl a2 → (fun (a2 : Int32 × Mem) => X p l e R s m args below meth c 5 cy D B 0 0 Q 2 [(0, .ref (B + oMd)), (1, .int p1), (2, .int p2), (3, .int a2.1)] [] σ a2.2 ω) a2) → (∀ b2, r9 = .inr b2 → (fun (b2 : Mem) => X p l e R s m args below meth c 5 cy D B 0 0 Q 56 [] [] σ b2 ω) b2) → X p l e R s m args below meth c 5 cy D B 0 0 Q 29 [(0, .ref (B + oMd)), (1, .int p1), (2, .int p2), (3, .int a2.1)] [.int t3, .int a2.1, .int p1, .ref (B + oMd)] σ a2.2 ω := by
        intro t3 r h hA1 hB2
        unfold jX6_givesBeds_29 at h
        refine x_iload_n C dX6_givesBeds_29 rfl 2 rfl ?_
        obtain ⟨q4, hk6, h⟩ := Option.bind_eq_some_iff.mp h
        refine x_callV C (As := [.int p1, .int a2.1, .int t3, .int p2]) (rest := []) (lw_g_mk tw_1490 rfl) (lw_g_mk tsel_69 rfl) (c_Md) (C1 := "HostelBedsModel") (T := TX6) (N := 27) (ci := 6) rfl (okX6_sleeps l cy D B ek p1 a2.1 t3 p2 σ a2.2 ω _ hk6) rfl rfl (by rw [hR9]; decide) (lw_g_mk tw_1491 rfl) (lw_g_mk tw_7 rfl) (by decide) rfl (lw_g_mk tw_1488 rfl) rfl (Nat.le_of_ble_eq_true rfl) dX6_givesBeds_30 (by rw [hR9]; decide) ?_
        refine x_istore C [(4, .int q4.1), (0, .ref (B + oMd)), (1, .int p1), (2, .int p2), (3, .int a2.1)] dX6_givesBeds_33 (by decide) rfl ?_
        refine x_iload C dX6_givesBeds_35 0 rfl ?_
        have hJ7 : ∀ (μ5 : Mem) (r9 : (Int32 × Mem) ⊕ (Mem)), jX6_givesBeds_50 a2 μ5 = some r9 → (∀ a2, r9 = .inl a2 → (fun (a2 : Int32 × Mem) => X p l e R s m args below meth c 5 cy D B 0 0 Q 2 [(0, .ref (B + oMd)), (1, .int p1), (2, .int p2), (3, .int a2.1)] [] σ a2.2 ω) a2) → (∀ b2, r9 = .inr b2 → (fun (b2 : Mem) => X p l e R s m args below meth c 5 cy D B 0 0 Q 56 [] [] σ b2 ω) b2) → X p l e R s m args below meth c 5 cy D B 0 0 Q 50 [(0, .ref (B + oMd)), (1, .int p1), (2, .int p2), (3, .int a2.1)] [] σ μ5 ω := by
          intro μ5 r h hA1 hB2
          unfold jX6_givesBeds_50 at h
          refine x_iinc C (k := 3) [(3, .int (a2.1 + (1 : Int32))), (0, .ref (B + oMd)), (1, .int p1), (2, .int p2)] dX6_givesBeds_50 rfl rfl (by decide) rfl ?_
          refine x_goto C (tgt := 2) dX6_givesBeds_53 (by decide) ?_
          cases h
          refine x_sub [1, 2, 3, 0] rfl ?_
          exact hA1 (a2.1 + (1 : Int32), μ5) rfl
        refine x_if_ne C (tgt := 50) dX6_givesBeds_37 (by decide) (fun hc8 => ?_) (fun hc8 => ?_)
        · rw [if_pos hc8] at h
          refine x_sub [1, 2, 3, 4] rfl ?_
          exact hJ7 q4.2 _ h hA1 hB2
        · rw [if_neg hc8] at h
          refine x_aload_n C dX6_givesBeds_40 rfl 1 rfl ?_
          refine x_iload_n C dX6_givesBeds_41 rfl 2 rfl ?_
          refine x_iload_n C dX6_givesBeds_42 rfl 4 rfl ?_
          refine x_iconst C (v := 0) dX6_givesBeds_43 (by decide) ?_
          refine x_iload_n C dX6_givesBeds_44 rfl 3 rfl ?_
          obtain ⟨q6, hk9, h⟩ := Option.bind_eq_some_iff.mp h
          refine x_callV C (As := [.int p1, .int a2.1, .int (0 : Int32), .int p2]) (rest := []) (lw_g_mk tw_1490 rfl) (lw_g_mk tsel_69 rfl) (c_Md) (C1 := "HostelBedsModel") (T := TX6) (N := 27) (ci := 6) rfl (okX6_sleeps l cy D B ek p1 a2.1 (0 : Int32) p2 σ q4.2 ω _ hk9) rfl rfl (by rw [hR9]; decide) (lw_g_mk tw_1491 rfl) (lw_g_mk tw_7 rfl) (by decide) rfl (lw_g_mk tw_1488 rfl) rfl (Nat.le_of_ble_eq_true rfl) dX6_givesBeds_45 (by rw [hR9]; decide) ?_
          refine x_istore C [(4, .int q6.1), (0, .ref (B + oMd)), (1, .int p1), (2, .int p2), (3, .int a2.1)] dX6_givesBeds_48 (by decide) rfl ?_
          refine x_sub [1, 2, 3, 4] rfl ?_
          exact hJ7 q6.2 _ h hA1 hB2
      refine x_icmp_ge C (tgt := 28) dX6_givesBeds_21 (by decide) (fun hc11 => ?_) (fun hc11 => ?_)
      · rw [if_pos hc11] at h
        refine x_iconst C (v := 2) dX6_givesBeds_28 (by decide) ?_
        exact hJ10 (2 : Int32) _ h hA1 hB2
      · rw [if_neg hc11] at h
        refine x_iconst C (v := 1) dX6_givesBeds_24 (by decide) ?_
        refine x_goto C (tgt := 29) dX6_givesBeds_25 (by decide) ?_
        exact hJ10 (1 : Int32) _ h hA1 hB2
  · show X p l e R s m args below meth c 5 cy D B 0 0 Q 56 [] [] σ b2 ω
    cases h
    exact hret _ _ dX6_givesBeds_56
def jX6_places_63 (p1 : Int32) (t3 : Int32) (μ4 : Mem) (t5 : Int32) : Option (Mem) := (gd (inb p1 17) (if t3 = (-1 : Int32) then (some (wI μ4 77 0 p1.toNatClampNeg t5)) else ((fX6_givesBeds p1 t3 (wI μ4 77 0 p1.toNatClampNeg t5)).bind fun q6 => (some q6))))
def jX6_places_47 (p1 : Int32) (t3 : Int32) (μ4 : Mem) : Option (Mem) := (if ¬ t3 = (-1 : Int32) then (jX6_places_63 p1 t3 μ4 (2 : Int32)) else (jX6_places_63 p1 t3 μ4 (3 : Int32)))
def fX6_places (p1 : Int32) (μ : Mem) : Option (Mem) := ((fX6_oneRoomFor p1 μ).bind fun q1 => (if q1 = (-1 : Int32) then ((fX6_of p1 (6 : Int32) μ).bind fun q2 => (if ¬ q2 = (1 : Int32) then ((fX6_setFor p1 μ).bind fun q7 => (jX6_places_47 p1 q7.1 q7.2)) else (jX6_places_47 p1 (-1 : Int32) μ))) else (gd (inb p1 17) ((fX6_givesBeds p1 ((1 : Int32) <<< (q1 &&& 31)) (wI μ 77 0 p1.toNatClampNeg (1 : Int32))).bind fun q8 => (some q8)))))
set_option maxHeartbeats 4000000 in
set_option maxRecDepth 100000 in
theorem okX6_places (l : Launch) (cy : Nat → ClassId) (D : va_G) (B : Nat) (ek : EK) (p1 : Int32) (σ μ ω : Mem) (res : Mem) (h : fX6_places p1 μ = some res) : CT l cy D B ek yX6_places cX6_places 4 none ({ frames := 6, cells := 0, slots := 0, locals := 140 } : Room) [.ref (B + oMd), .int p1] σ μ ω none σ res ω := by
  refine met_X (own := "HostelBedsModel") (by decide) rfl (Nat.le_of_ble_eq_true rfl) ?_
  intro p e s m args below meth c C hrT hlk
  have hret : ∀ (pc9 : Nat) (lcs9 : List (Nat × Value)), decode cX6_places pc9 = .ok (.return_, 1) → X p l e ({ frames := 6, cells := 0, slots := 0, locals := 140 } : Room) s m args below meth c 4 cy D B 0 0 (MQ below (QR cy D B none σ res ω) args s 0 0 (aB B)) pc9 lcs9 [] σ res ω := fun _ _ hd => x_vret C hrT hlk hd
  generalize (MQ below (QR cy D B none σ res ω) args s 0 0 (aB B)) = Q at hret ⊢
  obtain ⟨R, hR9⟩ : ∃ R : Room, R = ({ frames := 6, cells := 0, slots := 0, locals := 140 } : Room) := ⟨_, rfl⟩
  rw [← hR9] at hret ⊢
  unfold fX6_places at h
  show X p l e R s m args below meth c 4 cy D B 0 0 Q 0 [(0, .ref (B + oMd)), (1, .int p1)] [] σ μ ω
  refine x_aload_n C dX6_places_0 rfl 0 rfl ?_
  refine x_iload_n C dX6_places_1 rfl 1 rfl ?_
  obtain ⟨q1, hk1, h⟩ := Option.bind_eq_some_iff.mp h
  refine x_callV C (As := [.int p1]) (rest := []) (lw_g_mk tw_1463 rfl) (lw_g_mk tsel_63 rfl) (c_Md) (C1 := "HostelBedsModel") (T := TX6) (N := 27) (ci := 6) rfl (okX6_oneRoomFor l cy D B ek p1 σ μ ω _ hk1) rfl rfl (by rw [hR9]; decide) (lw_g_mk tw_1464 rfl) (lw_g_mk tw_7 rfl) (by decide) rfl (lw_g_mk tw_1461 rfl) rfl (Nat.le_of_ble_eq_true rfl) dX6_places_2 (by rw [hR9]; decide) ?_
  refine x_istore_n C [(2, .int q1), (0, .ref (B + oMd)), (1, .int p1)] dX6_places_5 rfl (by decide) rfl ?_
  refine x_iload_n C dX6_places_6 rfl 0 rfl ?_
  refine x_iconst C (v := -1) dX6_places_7 (by decide) ?_
  refine x_icmp_eq C (tgt := 27) dX6_places_8 (by decide) (fun hc2 => ?_) (fun hc2 => ?_)
  · rw [if_pos hc2] at h
    refine x_aload_n C dX6_places_27 rfl 1 rfl ?_
    refine x_iload_n C dX6_places_28 rfl 2 rfl ?_
    refine x_bipush C (v := 6) dX6_places_29 (by decide) ?_
    obtain ⟨q2, hk3, h⟩ := Option.bind_eq_some_iff.mp h
    refine x_callV C (As := [.int p1, .int (6 : Int32)]) (rest := []) (lw_g_mk tw_1367 rfl) (lw_g_mk tsel_48 rfl) (c_Md) (C1 := "HostelBedsModel") (T := TX6) (N := 27) (ci := 6) rfl (okX6_of l cy D B ek p1 (6 : Int32) σ μ ω _ hk3) rfl rfl (by rw [hR9]; decide) (lw_g_mk tw_1368 rfl) (lw_g_mk tw_7 rfl) (by decide) rfl (lw_g_mk tw_1365 rfl) rfl (Nat.le_of_ble_eq_true rfl) dX6_places_31 (by rw [hR9]; decide) ?_
    refine x_iconst C (v := 1) dX6_places_34 (by decide) ?_
    have hJ9 : ∀ (t3 : Int32) (μ4 : Mem) (r9 : Mem), jX6_places_47 p1 t3 μ4 = some r9 → (∀ (pc9 : Nat) (lcs9 : List (Nat × Value)), decode cX6_places pc9 = .ok (.return_, 1) → X p l e R s m args below meth c 4 cy D B 0 0 Q pc9 lcs9 [] σ r9 ω) → X p l e R s m args below meth c 4 cy D B 0 0 Q 47 [(0, .ref (B + oMd)), (1, .int p1)] [.int t3] σ μ4 ω := by
      intro t3 μ4 res9 h hret
      unfold jX6_places_47 at h
      refine x_istore_n C [(3, .int t3), (0, .ref (B + oMd)), (1, .int p1)] dX6_places_47 rfl (by decide) rfl ?_
      refine x_aload_n C dX6_places_48 rfl 1 rfl ?_
      refine x_get C (C1 := "HostelBedsModel") (T := TX6) (N := 27) (ci := 6) inXg6 _ (c_Md) rfl 22 (by decide) (lw_g_mk tw_1153 rfl) rfl dX6_places_49 ?_
      refine x_iload_n C dX6_places_52 rfl 2 rfl ?_
      refine x_iload_n C dX6_places_53 rfl 0 rfl ?_
      refine x_iconst C (v := -1) dX6_places_54 (by decide) ?_
      have hJ7 : ∀ (t5 : Int32) (r9 : Mem), jX6_places_63 p1 t3 μ4 t5 = some r9 → (∀ (pc9 : Nat) (lcs9 : List (Nat × Value)), decode cX6_places pc9 = .ok (.return_, 1) → X p l e R s m args below meth c 4 cy D B 0 0 Q pc9 lcs9 [] σ r9 ω) → X p l e R s m args below meth c 4 cy D B 0 0 Q 63 [(0, .ref (B + oMd)), (1, .int p1), (3, .int t3)] [.int t5, .int p1, .ref (B + oBec)] σ μ4 ω := by
        intro t5 res9 h hret
        unfold jX6_places_63 at h
        obtain ⟨hg4, h⟩ := gd_some h
        refine x_iast C _ (c_Bec) hg4 dX6_places_63 (s_Bec) ?_
        refine x_iload_n C dX6_places_64 rfl 2 rfl ?_
        refine x_iconst C (v := -1) dX6_places_65 (by decide) ?_
        refine x_icmp_eq C (tgt := 75) dX6_places_66 (by decide) (fun hc5 => ?_) (fun hc5 => ?_)
        · rw [if_pos hc5] at h
          cases h
          exact hret _ _ dX6_places_75
        · rw [if_neg hc5] at h
          refine x_aload_n C dX6_places_69 rfl 0 rfl ?_
          refine x_iload_n C dX6_places_70 rfl 1 rfl ?_
          refine x_iload_n C dX6_places_71 rfl 2 rfl ?_
          obtain ⟨q6, hk6, h⟩ := Option.bind_eq_some_iff.mp h
          refine x_callV C (As := [.int p1, .int t3]) (rest := []) (lw_g_mk tw_1486 rfl) (lw_g_mk tsel_68 rfl) (c_Md) (C1 := "HostelBedsModel") (T := TX6) (N := 27) (ci := 6) rfl (okX6_givesBeds l cy D B ek p1 t3 σ (wI μ4 77 0 p1.toNatClampNeg t5) ω _ hk6) rfl rfl (by rw [hR9]; decide) (lw_g_mk tw_1487 rfl) (lw_g_mk tw_7 rfl) (by decide) rfl (lw_g_mk tw_1484 rfl) rfl (Nat.le_of_ble_eq_true rfl) dX6_places_72 (by rw [hR9]; decide) ?_
          cases h
          exact hret _ _ dX6_places_75
      refine x_icmp_ne C (tgt := 62) dX6_places_55 (by decide) (fun hc8 => ?_) (fun hc8 => ?_)
      · rw [if_pos hc8] at h
        refine x_iconst C (v := 2) dX6_places_62 (by decide) ?_
        refine x_sub [1, 2, 0] rfl ?_
        exact hJ7 (2 : Int32) _ h hret
      · rw [if_neg hc8] at h
        refine x_iconst C (v := 3) dX6_places_58 (by decide) ?_
        refine x_goto C (tgt := 63) dX6_places_59 (by decide) ?_
        refine x_sub [1, 2, 0] rfl ?_
        exact hJ7 (3 : Int32) _ h hret
    refine x_icmp_ne C (tgt := 42) dX6_places_35 (by decide) (fun hc10 => ?_) (fun hc10 => ?_)
    · rw [if_pos hc10] at h
      refine x_aload_n C dX6_places_42 rfl 1 rfl ?_
      refine x_iload_n C dX6_places_43 rfl 2 rfl ?_
      obtain ⟨q7, hk11, h⟩ := Option.bind_eq_some_iff.mp h
      refine x_callV C (As := [.int p1]) (rest := []) (lw_g_mk tw_1498 rfl) (lw_g_mk tsel_71 rfl) (c_Md) (C1 := "HostelBedsModel") (T := TX6) (N := 27) (ci := 6) rfl (okX6_setFor l cy D B ek p1 σ μ ω _ hk11) rfl rfl (by rw [hR9]; decide) (lw_g_mk tw_1499 rfl) (lw_g_mk tw_7 rfl) (by decide) rfl (lw_g_mk tw_1496 rfl) rfl (Nat.le_of_ble_eq_true rfl) dX6_places_44 (by rw [hR9]; decide) ?_
      refine x_sub [1, 2] rfl ?_
      exact hJ9 q7.1 q7.2 _ h hret
    · rw [if_neg hc10] at h
      refine x_iconst C (v := -1) dX6_places_38 (by decide) ?_
      refine x_goto C (tgt := 47) dX6_places_39 (by decide) ?_
      refine x_sub [1, 2] rfl ?_
      exact hJ9 (-1 : Int32) μ _ h hret
  · rw [if_neg hc2] at h
    refine x_aload_n C dX6_places_11 rfl 1 rfl ?_
    refine x_get C (C1 := "HostelBedsModel") (T := TX6) (N := 27) (ci := 6) inXg6 _ (c_Md) rfl 22 (by decide) (lw_g_mk tw_1153 rfl) rfl dX6_places_12 ?_
    refine x_iload_n C dX6_places_15 rfl 2 rfl ?_
    refine x_iconst C (v := 1) dX6_places_16 (by decide) ?_
    obtain ⟨hg12, h⟩ := gd_some h
    refine x_iast C _ (c_Bec) hg12 dX6_places_17 (s_Bec) ?_
    refine x_aload_n C dX6_places_18 rfl 1 rfl ?_
    refine x_iload_n C dX6_places_19 rfl 2 rfl ?_
    refine x_iconst C (v := 1) dX6_places_20 (by decide) ?_
    refine x_iload_n C dX6_places_21 rfl 0 rfl ?_
    refine x_ishl C dX6_places_22 ?_
    obtain ⟨q8, hk13, h⟩ := Option.bind_eq_some_iff.mp h
    refine x_callV C (As := [.int p1, .int ((1 : Int32) <<< (q1 &&& 31))]) (rest := []) (lw_g_mk tw_1486 rfl) (lw_g_mk tsel_68 rfl) (c_Md) (C1 := "HostelBedsModel") (T := TX6) (N := 27) (ci := 6) rfl (okX6_givesBeds l cy D B ek p1 ((1 : Int32) <<< (q1 &&& 31)) σ (wI μ 77 0 p1.toNatClampNeg (1 : Int32)) ω _ hk13) rfl rfl (by rw [hR9]; decide) (lw_g_mk tw_1487 rfl) (lw_g_mk tw_7 rfl) (by decide) rfl (lw_g_mk tw_1484 rfl) rfl (Nat.le_of_ble_eq_true rfl) dX6_places_23 (by rw [hR9]; decide) ?_
    cases h
    exact hret _ _ dX6_places_26
def jX6_isPlacedAt_35 : Option (Int32) := (some ((0 : Int32)))
def fX6_isPlacedAt (p1 : Int32) (p2 : Int32) (μ : Mem) : Option (Int32) := ((fX6_of p1 (8 : Int32) μ).bind fun q1 => (if ¬ q1 = (1 : Int32) then (jX6_isPlacedAt_35) else ((fX6_of p1 (7 : Int32) μ).bind fun q2 => (if ¬ q2 = 0 then (jX6_isPlacedAt_35) else ((fX6_of p1 (0 : Int32) μ).bind fun q3 => (if ¬ q3 = p2 then (jX6_isPlacedAt_35) else (some ((1 : Int32)))))))))
set_option maxHeartbeats 4000000 in
set_option maxRecDepth 100000 in
theorem okX6_isPlacedAt (l : Launch) (cy : Nat → ClassId) (D : va_G) (B : Nat) (ek : EK) (p1 : Int32) (p2 : Int32) (σ μ ω : Mem) (res : Int32) (h : fX6_isPlacedAt p1 p2 μ = some res) : CT l cy D B ek yX6_isPlacedAt cX6_isPlacedAt 3 (some .boolean) ({ frames := 2, cells := 0, slots := 0, locals := 43 } : Room) [.ref (B + oMd), .int p1, .int p2] σ μ ω (some (.int res)) σ μ ω := by
  refine met_X (own := "HostelBedsModel") (by decide) rfl (Nat.le_of_ble_eq_true rfl) ?_
  intro p e s m args below meth c C hrT hlk
  have hret : ∀ (pc9 : Nat) (lcs9 : List (Nat × Value)), decode cX6_isPlacedAt pc9 = .ok (.ireturn, 1) → narrow .boolean (.int res) = .int res → X p l e ({ frames := 2, cells := 0, slots := 0, locals := 43 } : Room) s m args below meth c 3 cy D B 0 0 (MQ below (QR cy D B (some (.int res)) σ μ ω) args s 0 0 (aB B)) pc9 lcs9 [.int res] σ μ ω := fun _ _ hd hn => x_zret C hrT hlk hn hd
  generalize (MQ below (QR cy D B (some (.int res)) σ μ ω) args s 0 0 (aB B)) = Q at hret ⊢
  obtain ⟨R, hR9⟩ : ∃ R : Room, R = ({ frames := 2, cells := 0, slots := 0, locals := 43 } : Room) := ⟨_, rfl⟩
  rw [← hR9] at hret ⊢
  unfold fX6_isPlacedAt at h
  show X p l e R s m args below meth c 3 cy D B 0 0 Q 0 [(0, .ref (B + oMd)), (1, .int p1), (2, .int p2)] [] σ μ ω
  refine x_aload_n C dX6_isPlacedAt_0 rfl 0 rfl ?_
  refine x_iload_n C dX6_isPlacedAt_1 rfl 1 rfl ?_
  refine x_bipush C (v := 8) dX6_isPlacedAt_2 (by decide) ?_
  obtain ⟨q1, hk1, h⟩ := Option.bind_eq_some_iff.mp h
  refine x_callV C (As := [.int p1, .int (8 : Int32)]) (rest := []) (lw_g_mk tw_1367 rfl) (lw_g_mk tsel_48 rfl) (c_Md) (C1 := "HostelBedsModel") (T := TX6) (N := 27) (ci := 6) rfl (okX6_of l cy D B ek p1 (8 : Int32) σ μ ω _ hk1) rfl rfl (by rw [hR9]; decide) (lw_g_mk tw_1368 rfl) (lw_g_mk tw_7 rfl) (by decide) rfl (lw_g_mk tw_1365 rfl) rfl (Nat.le_of_ble_eq_true rfl) dX6_isPlacedAt_4 (by rw [hR9]; decide) ?_
  refine x_iconst C (v := 1) dX6_isPlacedAt_7 (by decide) ?_
  have hJ2 : ∀ (r9 : Int32), jX6_isPlacedAt_35 = some r9 → (∀ (pc9 : Nat) (lcs9 : List (Nat × Value)), decode cX6_isPlacedAt pc9 = .ok (.ireturn, 1) → narrow .boolean (.int r9) = .int r9 → X p l e R s m args below meth c 3 cy D B 0 0 Q pc9 lcs9 [.int r9] σ μ ω) → X p l e R s m args below meth c 3 cy D B 0 0 Q 35 [] [] σ μ ω := by
    intro res9 h hret
    unfold jX6_isPlacedAt_35 at h
    refine x_iconst C (v := 0) dX6_isPlacedAt_35 (by decide) ?_
    cases h
    exact hret _ _ dX6_isPlacedAt_36 (nar_Z (Or.inl rfl))
  refine x_icmp_ne C (tgt := 35) dX6_isPlacedAt_8 (by decide) (fun hc3 => ?_) (fun hc3 => ?_)
  · rw [if_pos hc3] at h
    refine x_sub [] rfl ?_
    exact hJ2 _ h hret
  · rw [if_neg hc3] at h
    refine x_aload_n C dX6_isPlacedAt_11 rfl 0 rfl ?_
    refine x_iload_n C dX6_isPlacedAt_12 rfl 1 rfl ?_
    refine x_bipush C (v := 7) dX6_isPlacedAt_13 (by decide) ?_
    obtain ⟨q2, hk4, h⟩ := Option.bind_eq_some_iff.mp h
    refine x_callV C (As := [.int p1, .int (7 : Int32)]) (rest := []) (lw_g_mk tw_1367 rfl) (lw_g_mk tsel_48 rfl) (c_Md) (C1 := "HostelBedsModel") (T := TX6) (N := 27) (ci := 6) rfl (okX6_of l cy D B ek p1 (7 : Int32) σ μ ω _ hk4) rfl rfl (by rw [hR9]; decide) (lw_g_mk tw_1368 rfl) (lw_g_mk tw_7 rfl) (by decide) rfl (lw_g_mk tw_1365 rfl) rfl (Nat.le_of_ble_eq_true rfl) dX6_isPlacedAt_15 (by rw [hR9]; decide) ?_
    refine x_if_ne C (tgt := 35) dX6_isPlacedAt_18 (by decide) (fun hc5 => ?_) (fun hc5 => ?_)
    · rw [if_pos hc5] at h
      refine x_sub [] rfl ?_
      exact hJ2 _ h hret
    · rw [if_neg hc5] at h
      refine x_aload_n C dX6_isPlacedAt_21 rfl 0 rfl ?_
      refine x_iload_n C dX6_isPlacedAt_22 rfl 1 rfl ?_
      refine x_iconst C (v := 0) dX6_isPlacedAt_23 (by decide) ?_
      obtain ⟨q3, hk6, h⟩ := Option.bind_eq_some_iff.mp h
      refine x_callV C (As := [.int p1, .int (0 : Int32)]) (rest := []) (lw_g_mk tw_1367 rfl) (lw_g_mk tsel_48 rfl) (c_Md) (C1 := "HostelBedsModel") (T := TX6) (N := 27) (ci := 6) rfl (okX6_of l cy D B ek p1 (0 : Int32) σ μ ω _ hk6) rfl rfl (by rw [hR9]; decide) (lw_g_mk tw_1368 rfl) (lw_g_mk tw_7 rfl) (by decide) rfl (lw_g_mk tw_1365 rfl) rfl (Nat.le_of_ble_eq_true rfl) dX6_isPlacedAt_24 (by rw [hR9]; decide) ?_
      refine x_iload_n C dX6_isPlacedAt_27 rfl 2 rfl ?_
      refine x_icmp_ne C (tgt := 35) dX6_isPlacedAt_28 (by decide) (fun hc7 => ?_) (fun hc7 => ?_)
      · rw [if_pos hc7] at h
        refine x_sub [] rfl ?_
        exact hJ2 _ h hret
      · rw [if_neg hc7] at h
        refine x_iconst C (v := 1) dX6_isPlacedAt_31 (by decide) ?_
        refine x_goto C (tgt := 36) dX6_isPlacedAt_32 (by decide) ?_
        cases h
        exact hret _ _ dX6_isPlacedAt_36 (nar_Z (Or.inr rfl))
def stX6_placesAll_2 (a2 : Int32 × Mem) : Option ((Int32 × Mem) ⊕ (Mem)) := (if (2400 : Int32) ≤ a2.1 then (some (.inr a2.2)) else (gd (inb a2.1 2400) (some (.inl (a2.1 + (1 : Int32), wI a2.2 76 0 a2.1.toNatClampNeg (-1 : Int32))))))
def stX6_placesAll_26 (a26 : Int32 × Mem) : Option ((Int32 × Mem) ⊕ (Mem)) := (if (17 : Int32) ≤ a26.1 then (some (.inr a26.2)) else (gd (inb a26.1 17) (some (.inl (a26.1 + (1 : Int32), wI a26.2 77 0 a26.1.toNatClampNeg (0 : Int32))))))
def jX6_placesAll_82 (a58 : Int32 × Mem) (μ3 : Mem) : Option ((Int32 × Mem) ⊕ (Mem)) := (some (.inl (a58.1 + (1 : Int32), μ3)))
def stX6_placesAll_58 (a50 : Int32 × Mem) (a58 : Int32 × Mem) : Option ((Int32 × Mem) ⊕ (Mem)) := ((fX6_get (37 : Int32) a58.2).bind fun q1 => (if q1 ≤ a58.1 then (some (.inr a58.2)) else ((fX6_isPlacedAt a58.1 a50.1 a58.2).bind fun q2 => (if q2 = 0 then (jX6_placesAll_82 a58 a58.2) else ((fX6_places a58.1 a58.2).bind fun q4 => (jX6_placesAll_82 a58 q4))))))
def stX6_placesAll_50 (a50 : Int32 × Mem) : Option ((Int32 × Mem) ⊕ (Mem)) := (if (30 : Int32) ≤ a50.1 then (some (.inr a50.2)) else ((loop (stX6_placesAll_58 a50) 5000 ((0 : Int32), a50.2)).bind fun b58 => (some (.inl (a50.1 + (1 : Int32), b58)))))
def fX6_placesAll (μ : Mem) : Option (Mem) := ((loop (stX6_placesAll_2) 5000 ((0 : Int32), μ)).bind fun b2 => ((loop (stX6_placesAll_26) 5000 ((0 : Int32), b2)).bind fun b26 => ((loop (stX6_placesAll_50) 5000 ((0 : Int32), b26)).bind fun b50 => (some b50))))
set_option maxHeartbeats 4000000 in
set_option maxRecDepth 100000 in
theorem okX6_placesAll (l : Launch) (cy : Nat → ClassId) (D : va_G) (B : Nat) (ek : EK) (σ μ ω : Mem) (res : Mem) (h : fX6_placesAll μ = some res) : CT l cy D B ek yX6_placesAll cX6_placesAll 3 none ({ frames := 7, cells := 0, slots := 0, locals := 163 } : Room) [.ref (B + oMd)] σ μ ω none σ res ω := by
  refine met_X (own := "HostelBedsModel") (by decide) rfl (Nat.le_of_ble_eq_true rfl) ?_
  intro p e s m args below meth c C hrT hlk
  have hret : ∀ (pc9 : Nat) (lcs9 : List (Nat × Value)), decode cX6_placesAll pc9 = .ok (.return_, 1) → X p l e ({ frames := 7, cells := 0, slots := 0, locals := 163 } : Room) s m args below meth c 3 cy D B 0 0 (MQ below (QR cy D B none σ res ω) args s 0 0 (aB B)) pc9 lcs9 [] σ res ω := fun _ _ hd => x_vret C hrT hlk hd
  generalize (MQ below (QR cy D B none σ res ω) args s 0 0 (aB B)) = Q at hret ⊢
  obtain ⟨R, hR9⟩ : ∃ R : Room, R = ({ frames := 7, cells := 0, slots := 0, locals := 163 } : Room) := ⟨_, rfl⟩
  rw [← hR9] at hret ⊢
  unfold fX6_placesAll at h
  show X p l e R s m args below meth c 3 cy D B 0 0 Q 0 [(0, .ref (B + oMd))] [] σ μ ω
  refine x_iconst C (v := 0) dX6_placesAll_0 (by decide) ?_
  refine x_istore_n C [(1, .int (0 : Int32)), (0, .ref (B + oMd))] dX6_placesAll_1 rfl (by decide) rfl ?_
  obtain ⟨b2, hk5, h⟩ := Option.bind_eq_some_iff.mp h
  refine x_sub [1, 0] rfl ?_
  refine loop_run (step := stX6_placesAll_2) (P := fun (a2 : Int32 × Mem) => X p l e R s m args below meth c 3 cy D B 0 0 Q 2 [(0, .ref (B + oMd)), (1, .int a2.1)] [] σ a2.2 ω) (K := fun (b2 : Mem) => X p l e R s m args below meth c 3 cy D B 0 0 Q 24 [(0, .ref (B + oMd))] [] σ b2 ω) ?_ 5000 ((0 : Int32), μ) b2 hk5 ?_
  · intro a2 r h hA1 hB2
    unfold stX6_placesAll_2 at h
    refine x_iload_n C dX6_placesAll_2 rfl 1 rfl ?_
    refine x_aload_n C dX6_placesAll_3 rfl 0 rfl ?_
    refine x_get C (C1 := "HostelBedsModel") (T := TX6) (N := 27) (ci := 6) inXg6 _ (c_Md) rfl 21 (by decide) (lw_g_mk tw_1152 rfl) rfl dX6_placesAll_4 ?_
    refine x_alen C _ 0 (c_Hold) rfl (v := 2400) rfl dX6_placesAll_7 ?_
    refine x_icmp_ge C (tgt := 24) dX6_placesAll_8 (by decide) (fun hc3 => ?_) (fun hc3 => ?_)
    · rw [if_pos hc3] at h
      cases h
      refine x_sub [0] rfl ?_
      exact hB2 a2.2 rfl
    · rw [if_neg hc3] at h
      refine x_aload_n C dX6_placesAll_11 rfl 0 rfl ?_
      refine x_get C (C1 := "HostelBedsModel") (T := TX6) (N := 27) (ci := 6) inXg6 _ (c_Md) rfl 21 (by decide) (lw_g_mk tw_1152 rfl) rfl dX6_placesAll_12 ?_
      refine x_iload_n C dX6_placesAll_15 rfl 1 rfl ?_
      refine x_iconst C (v := -1) dX6_placesAll_16 (by decide) ?_
      obtain ⟨hg4, h⟩ := gd_some h
      refine x_iast C _ (c_Hold) hg4 dX6_placesAll_17 (s_Hold) ?_
      refine x_iinc C (k := 1) [(1, .int (a2.1 + (1 : Int32))), (0, .ref (B + oMd))] dX6_placesAll_18 rfl rfl (by decide) rfl ?_
      refine x_goto C (tgt := 2) dX6_placesAll_21 (by decide) ?_
      cases h
      refine x_sub [1, 0] rfl ?_
      exact hA1 (a2.1 + (1 : Int32), wI a2.2 76 0 a2.1.toNatClampNeg (-1 : Int32)) rfl
  · show X p l e R s m args below meth c 3 cy D B 0 0 Q 24 [(0, .ref (B + oMd))] [] σ b2 ω
    refine x_iconst C (v := 0) dX6_placesAll_24 (by decide) ?_
    refine x_istore_n C [(1, .int (0 : Int32)), (0, .ref (B + oMd))] dX6_placesAll_25 rfl (by decide) rfl ?_
    obtain ⟨b26, hk10, h⟩ := Option.bind_eq_some_iff.mp h
    refine x_sub [1, 0] rfl ?_
    refine loop_run (step := stX6_placesAll_26) (P := fun (a26 : Int32 × Mem) => X p l e R s m args below meth c 3 cy D B 0 0 Q 26 [(0, .ref (B + oMd)), (1, .int a26.1)] [] σ a26.2 ω) (K := fun (b26 : Mem) => X p l e R s m args below meth c 3 cy D B 0 0 Q 48 [(0, .ref (B + oMd))] [] σ b26 ω) ?_ 5000 ((0 : Int32), b2) b26 hk10 ?_
    · intro a26 r h hA6 hB7
      unfold stX6_placesAll_26 at h
      refine x_iload_n C dX6_placesAll_26 rfl 1 rfl ?_
      refine x_aload_n C dX6_placesAll_27 rfl 0 rfl ?_
      refine x_get C (C1 := "HostelBedsModel") (T := TX6) (N := 27) (ci := 6) inXg6 _ (c_Md) rfl 22 (by decide) (lw_g_mk tw_1153 rfl) rfl dX6_placesAll_28 ?_
      refine x_alen C _ 0 (c_Bec) rfl (v := 17) rfl dX6_placesAll_31 ?_
      refine x_icmp_ge C (tgt := 48) dX6_placesAll_32 (by decide) (fun hc8 => ?_) (fun hc8 => ?_)
      · rw [if_pos hc8] at h
        cases h
        refine x_sub [0] rfl ?_
        exact hB7 a26.2 rfl
      · rw [if_neg hc8] at h
        refine x_aload_n C dX6_placesAll_35 rfl 0 rfl ?_
        refine x_get C (C1 := "HostelBedsModel") (T := TX6) (N := 27) (ci := 6) inXg6 _ (c_Md) rfl 22 (by decide) (lw_g_mk tw_1153 rfl) rfl dX6_placesAll_36 ?_
        refine x_iload_n C dX6_placesAll_39 rfl 1 rfl ?_
        refine x_iconst C (v := 0) dX6_placesAll_40 (by decide) ?_
        obtain ⟨hg9, h⟩ := gd_some h
        refine x_iast C _ (c_Bec) hg9 dX6_placesAll_41 (s_Bec) ?_
        refine x_iinc C (k := 1) [(1, .int (a26.1 + (1 : Int32))), (0, .ref (B + oMd))] dX6_placesAll_42 rfl rfl (by decide) rfl ?_
        refine x_goto C (tgt := 26) dX6_placesAll_45 (by decide) ?_
        cases h
        refine x_sub [1, 0] rfl ?_
        exact hA6 (a26.1 + (1 : Int32), wI a26.2 77 0 a26.1.toNatClampNeg (0 : Int32)) rfl
    · show X p l e R s m args below meth c 3 cy D B 0 0 Q 48 [(0, .ref (B + oMd))] [] σ b26 ω
      refine x_iconst C (v := 0) dX6_placesAll_48 (by decide) ?_
      refine x_istore_n C [(1, .int (0 : Int32)), (0, .ref (B + oMd))] dX6_placesAll_49 rfl (by decide) rfl ?_
      obtain ⟨b50, hk23, h⟩ := Option.bind_eq_some_iff.mp h
      refine x_sub [1, 0] rfl ?_
      refine loop_run (step := stX6_placesAll_50) (P := fun (a50 : Int32 × Mem) => X p l e R s m args below meth c 3 cy D B 0 0 Q 50 [(0, .ref (B + oMd)), (1, .int a50.1)] [] σ a50.2 ω) (K := fun (b50 : Mem) => X p l e R s m args below meth c 3 cy D B 0 0 Q 94 [] [] σ b50 ω) ?_ 5000 ((0 : Int32), b26) b50 hk23 ?_
      · intro a50 r h hA11 hB12
        unfold stX6_placesAll_50 at h
        refine x_iload_n C dX6_placesAll_50 rfl 1 rfl ?_
        refine x_bipush C (v := 30) dX6_placesAll_51 (by decide) ?_
        refine x_icmp_ge C (tgt := 94) dX6_placesAll_53 (by decide) (fun hc13 => ?_) (fun hc13 => ?_)
        · rw [if_pos hc13] at h
          cases h
          refine x_sub [] rfl ?_
          exact hB12 a50.2 rfl
        · rw [if_neg hc13] at h
          refine x_iconst C (v := 0) dX6_placesAll_56 (by decide) ?_
          refine x_istore_n C [(2, .int (0 : Int32)), (0, .ref (B + oMd)), (1, .int a50.1)] dX6_placesAll_57 rfl (by decide) rfl ?_
          obtain ⟨b58, hk22, h⟩ := Option.bind_eq_some_iff.mp h
          refine x_sub [1, 2, 0] rfl ?_
          refine loop_run (step := stX6_placesAll_58 a50) (P := fun (a58 : Int32 × Mem) => X p l e R s m args below meth c 3 cy D B 0 0 Q 58 [(0, .ref (B + oMd)), (1, .int a50.1), (2, .int a58.1)] [] σ a58.2 ω) (K := fun (b58 : Mem) => X p l e R s m args below meth c 3 cy D B 0 0 Q 88 [(0, .ref (B + oMd)), (1, .int a50.1)] [] σ b58 ω) ?_ 5000 ((0 : Int32), a50.2) b58 hk22 ?_
          · intro a58 r h hA14 hB15
            unfold stX6_placesAll_58 at h
            refine x_iload_n C dX6_placesAll_58 rfl 2 rfl ?_
            refine x_aload_n C dX6_placesAll_59 rfl 0 rfl ?_
            refine x_bipush C (v := 37) dX6_placesAll_60 (by decide) ?_
            obtain ⟨q1, hk16, h⟩ := Option.bind_eq_some_iff.mp h
            refine x_callV C (As := [.int (37 : Int32)]) (rest := [.int a58.1]) (lw_g_mk tw_1296 rfl) (lw_g_mk tsel_31 rfl) (c_Md) (C1 := "HostelBedsModel") (T := TX6) (N := 27) (ci := 6) rfl (okX6_get l cy D B ek (37 : Int32) σ a58.2 ω _ hk16) rfl rfl (by rw [hR9]; decide) (lw_g_mk tw_1297 rfl) (lw_g_mk tw_7 rfl) (by decide) rfl (lw_g_mk tw_1294 rfl) rfl (Nat.le_of_ble_eq_true rfl) dX6_placesAll_62 (by rw [hR9]; decide) ?_
            refine x_icmp_ge C (tgt := 88) dX6_placesAll_65 (by decide) (fun hc17 => ?_) (fun hc17 => ?_)
            · rw [if_pos hc17] at h
              cases h
              refine x_sub [0, 1] rfl ?_
              exact hB15 a58.2 rfl
            · rw [if_neg hc17] at h
              refine x_aload_n C dX6_placesAll_68 rfl 0 rfl ?_
              refine x_iload_n C dX6_placesAll_69 rfl 2 rfl ?_
              refine x_iload_n C dX6_placesAll_70 rfl 1 rfl ?_
              obtain ⟨q2, hk18, h⟩ := Option.bind_eq_some_iff.mp h
              refine x_callV C (As := [.int a58.1, .int a50.1]) (rest := []) (lw_g_mk tw_1455 rfl) (lw_g_mk tsel_61 rfl) (c_Md) (C1 := "HostelBedsModel") (T := TX6) (N := 27) (ci := 6) rfl (okX6_isPlacedAt l cy D B ek a58.1 a50.1 σ a58.2 ω _ hk18) rfl rfl (by rw [hR9]; decide) (lw_g_mk tw_1456 rfl) (lw_g_mk tw_7 rfl) (by decide) rfl (lw_g_mk tw_1453 rfl) rfl (Nat.le_of_ble_eq_true rfl) dX6_placesAll_71 (by rw [hR9]; decide) ?_
              have hJ19 : ∀ (μ3 : Mem) (r9 : (Int32 × Mem) ⊕ (Mem)), jX6_placesAll_82 a58 μ3 = some r9 → (∀ a2, r9 = .inl a2 → (fun (a58 : Int32 × Mem) => X p l e R s m args below meth c 3 cy D B 0 0 Q 58 [(0, .ref (B + oMd)), (1, .int a50.1), (2, .int a58.1)] [] σ a58.2 ω) a2) → (∀ b2, r9 = .inr b2 → (fun (b58 : Mem) => X p l e R s m args below meth c 3 cy D B 0 0 Q 88 [(0, .ref (B + oMd)), (1, .int a50.1)] [] σ b58 ω) b2) → X p l e R s m args below meth c 3 cy D B 0 0 Q 82 [(0, .ref (B + oMd)), (1, .int a50.1), (2, .int a58.1)] [] σ μ3 ω := by
                intro μ3 r h hA14 hB15
                unfold jX6_placesAll_82 at h
                refine x_iinc C (k := 2) [(2, .int (a58.1 + (1 : Int32))), (0, .ref (B + oMd)), (1, .int a50.1)] dX6_placesAll_82 rfl rfl (by decide) rfl ?_
                refine x_goto C (tgt := 58) dX6_placesAll_85 (by decide) ?_
                cases h
                refine x_sub [1, 2, 0] rfl ?_
                exact hA14 (a58.1 + (1 : Int32), μ3) rfl
              refine x_if_eq C (tgt := 82) dX6_placesAll_74 (by decide) (fun hc20 => ?_) (fun hc20 => ?_)
              · rw [if_pos hc20] at h
                exact hJ19 a58.2 _ h hA14 hB15
              · rw [if_neg hc20] at h
                refine x_aload_n C dX6_placesAll_77 rfl 0 rfl ?_
                refine x_iload_n C dX6_placesAll_78 rfl 2 rfl ?_
                obtain ⟨q4, hk21, h⟩ := Option.bind_eq_some_iff.mp h
                refine x_callV C (As := [.int a58.1]) (rest := []) (lw_g_mk tw_1459 rfl) (lw_g_mk tsel_62 rfl) (c_Md) (C1 := "HostelBedsModel") (T := TX6) (N := 27) (ci := 6) rfl (okX6_places l cy D B ek a58.1 σ a58.2 ω _ hk21) rfl rfl (by rw [hR9]; decide) (lw_g_mk tw_1460 rfl) (lw_g_mk tw_7 rfl) (by decide) rfl (lw_g_mk tw_1457 rfl) rfl (Nat.le_of_ble_eq_true rfl) dX6_placesAll_79 (by rw [hR9]; decide) ?_
                exact hJ19 q4 _ h hA14 hB15
          · show X p l e R s m args below meth c 3 cy D B 0 0 Q 88 [(0, .ref (B + oMd)), (1, .int a50.1)] [] σ b58 ω
            refine x_iinc C (k := 1) [(1, .int (a50.1 + (1 : Int32))), (0, .ref (B + oMd))] dX6_placesAll_88 rfl rfl (by decide) rfl ?_
            refine x_goto C (tgt := 50) dX6_placesAll_91 (by decide) ?_
            cases h
            refine x_sub [1, 0] rfl ?_
            exact hA11 (a50.1 + (1 : Int32), b58) rfl
      · show X p l e R s m args below meth c 3 cy D B 0 0 Q 94 [] [] σ b50 ω
        cases h
        exact hret _ _ dX6_placesAll_94
def jX6_hasBeds_20 : Option (Int32) := (some ((1 : Int32)))
def fX6_hasBeds (p1 : Int32) (μ : Mem) : Option (Int32) := (gd (inb p1 17) (if (rI μ 77 0 p1.toNatClampNeg) = (1 : Int32) then (jX6_hasBeds_20) else (if ¬ (rI μ 77 0 p1.toNatClampNeg) = (2 : Int32) then (some ((0 : Int32))) else (jX6_hasBeds_20))))
set_option maxHeartbeats 4000000 in
set_option maxRecDepth 100000 in
theorem okX6_hasBeds (l : Launch) (cy : Nat → ClassId) (D : va_G) (B : Nat) (ek : EK) (p1 : Int32) (σ μ ω : Mem) (res : Int32) (h : fX6_hasBeds p1 μ = some res) : CT l cy D B ek yX6_hasBeds cX6_hasBeds 2 (some .boolean) ({ frames := 0, cells := 0, slots := 0, locals := 0 } : Room) [.ref (B + oMd), .int p1] σ μ ω (some (.int res)) σ μ ω := by
  refine met_X (own := "HostelBedsModel") (by decide) rfl (Nat.le_of_ble_eq_true rfl) ?_
  intro p e s m args below meth c C hrT hlk
  have hret : ∀ (pc9 : Nat) (lcs9 : List (Nat × Value)), decode cX6_hasBeds pc9 = .ok (.ireturn, 1) → narrow .boolean (.int res) = .int res → X p l e ({ frames := 0, cells := 0, slots := 0, locals := 0 } : Room) s m args below meth c 2 cy D B 0 0 (MQ below (QR cy D B (some (.int res)) σ μ ω) args s 0 0 (aB B)) pc9 lcs9 [.int res] σ μ ω := fun _ _ hd hn => x_zret C hrT hlk hn hd
  generalize (MQ below (QR cy D B (some (.int res)) σ μ ω) args s 0 0 (aB B)) = Q at hret ⊢
  obtain ⟨R, hR9⟩ : ∃ R : Room, R = ({ frames := 0, cells := 0, slots := 0, locals := 0 } : Room) := ⟨_, rfl⟩
  rw [← hR9] at hret ⊢
  unfold fX6_hasBeds at h
  show X p l e R s m args below meth c 2 cy D B 0 0 Q 0 [(0, .ref (B + oMd)), (1, .int p1)] [] σ μ ω
  refine x_aload_n C dX6_hasBeds_0 rfl 0 rfl ?_
  refine x_get C (C1 := "HostelBedsModel") (T := TX6) (N := 27) (ci := 6) inXg6 _ (c_Md) rfl 22 (by decide) (lw_g_mk tw_1153 rfl) rfl dX6_hasBeds_1 ?_
  refine x_iload_n C dX6_hasBeds_4 rfl 1 rfl ?_
  obtain ⟨hg1, h⟩ := gd_some h
  refine x_iald C _ (c_Bec) hg1 dX6_hasBeds_5 ?_
  refine x_iconst C (v := 1) dX6_hasBeds_6 (by decide) ?_
  have hJ2 : ∀ (r9 : Int32), jX6_hasBeds_20 = some r9 → (∀ (pc9 : Nat) (lcs9 : List (Nat × Value)), decode cX6_hasBeds pc9 = .ok (.ireturn, 1) → narrow .boolean (.int r9) = .int r9 → X p l e R s m args below meth c 2 cy D B 0 0 Q pc9 lcs9 [.int r9] σ μ ω) → X p l e R s m args below meth c 2 cy D B 0 0 Q 20 [] [] σ μ ω := by
    intro res9 h hret
    unfold jX6_hasBeds_20 at h
    refine x_iconst C (v := 1) dX6_hasBeds_20 (by decide) ?_
    refine x_goto C (tgt := 25) dX6_hasBeds_21 (by decide) ?_
    cases h
    exact hret _ _ dX6_hasBeds_25 (nar_Z (Or.inr rfl))
  refine x_icmp_eq C (tgt := 20) dX6_hasBeds_7 (by decide) (fun hc3 => ?_) (fun hc3 => ?_)
  · rw [if_pos hc3] at h
    refine x_sub [] rfl ?_
    exact hJ2 _ h hret
  · rw [if_neg hc3] at h
    refine x_aload_n C dX6_hasBeds_10 rfl 0 rfl ?_
    refine x_get C (C1 := "HostelBedsModel") (T := TX6) (N := 27) (ci := 6) inXg6 _ (c_Md) rfl 22 (by decide) (lw_g_mk tw_1153 rfl) rfl dX6_hasBeds_11 ?_
    refine x_iload_n C dX6_hasBeds_14 rfl 1 rfl ?_
    refine x_iald C _ (c_Bec) hg1 dX6_hasBeds_15 ?_
    refine x_iconst C (v := 2) dX6_hasBeds_16 (by decide) ?_
    refine x_icmp_ne C (tgt := 24) dX6_hasBeds_17 (by decide) (fun hc4 => ?_) (fun hc4 => ?_)
    · rw [if_pos hc4] at h
      refine x_iconst C (v := 0) dX6_hasBeds_24 (by decide) ?_
      cases h
      exact hret _ _ dX6_hasBeds_25 (nar_Z (Or.inl rfl))
    · rw [if_neg hc4] at h
      refine x_sub [] rfl ?_
      exact hJ2 _ h hret
def fX6_placed (p1 : Int32) (μ : Mem) : Option (Int32 × Mem) := ((fX6_isBooking p1 (wI μ 60 0 0 (0 : Int32))).bind fun q1 => (if ¬ q1 = 0 then ((fX6_placesAll (wI μ 60 0 0 (0 : Int32))).bind fun q2 => (gd (inb p1 17) (some (rI q2 77 0 p1.toNatClampNeg, q2)))) else ((fX6_fails (1 : Int32) (wI μ 60 0 0 (0 : Int32))).bind fun q3 => (some (q3.1, q3.2)))))
set_option maxHeartbeats 4000000 in
set_option maxRecDepth 100000 in
theorem okX6_placed (l : Launch) (cy : Nat → ClassId) (D : va_G) (B : Nat) (ek : EK) (p1 : Int32) (σ μ ω : Mem) (res : Int32 × Mem) (h : fX6_placed p1 μ = some res) : CT l cy D B ek yX6_placed cX6_placed 2 (some .int) ({ frames := 8, cells := 0, slots := 0, locals := 185 } : Room) [.ref (B + oMd), .int p1] σ μ ω (some (.int res.1)) σ res.2 ω := by
  refine met_X (own := "HostelBedsModel") (by decide) rfl (Nat.le_of_ble_eq_true rfl) ?_
  intro p e s m args below meth c C hrT hlk
  have hret : ∀ (pc9 : Nat) (lcs9 : List (Nat × Value)), decode cX6_placed pc9 = .ok (.ireturn, 1) → narrow .int (.int res.1) = .int res.1 → X p l e ({ frames := 8, cells := 0, slots := 0, locals := 185 } : Room) s m args below meth c 2 cy D B 0 0 (MQ below (QR cy D B (some (.int res.1)) σ res.2 ω) args s 0 0 (aB B)) pc9 lcs9 [.int res.1] σ res.2 ω := fun _ _ hd hn => x_zret C hrT hlk hn hd
  generalize (MQ below (QR cy D B (some (.int res.1)) σ res.2 ω) args s 0 0 (aB B)) = Q at hret ⊢
  obtain ⟨R, hR9⟩ : ∃ R : Room, R = ({ frames := 8, cells := 0, slots := 0, locals := 185 } : Room) := ⟨_, rfl⟩
  rw [← hR9] at hret ⊢
  unfold fX6_placed at h
  show X p l e R s m args below meth c 2 cy D B 0 0 Q 0 [(0, .ref (B + oMd)), (1, .int p1)] [] σ μ ω
  refine x_aload_n C dX6_placed_0 rfl 0 rfl ?_
  refine x_iconst C (v := 0) dX6_placed_1 (by decide) ?_
  refine x_put C (C1 := "HostelBedsModel") (T := TX6) (N := 27) (ci := 6) inXg6 tyX6 tyX6_ok nmX6 _ (c_Md) rfl 0 (by decide) (lw_g_mk tw_1131 rfl) rfl rfl rfl rfl (Nat.le_of_ble_eq_true rfl) dX6_placed_2 (s_Md_thrown) ?_
  refine x_aload_n C dX6_placed_5 rfl 0 rfl ?_
  refine x_iload_n C dX6_placed_6 rfl 1 rfl ?_
  obtain ⟨q1, hk1, h⟩ := Option.bind_eq_some_iff.mp h
  refine x_callV C (As := [.int p1]) (rest := []) (lw_g_mk tw_1431 rfl) (lw_g_mk tsel_59 rfl) (c_Md) (C1 := "HostelBedsModel") (T := TX6) (N := 27) (ci := 6) rfl (okX6_isBooking l cy D B ek p1 σ (wI μ 60 0 0 (0 : Int32)) ω _ hk1) rfl rfl (by rw [hR9]; decide) (lw_g_mk tw_1432 rfl) (lw_g_mk tw_7 rfl) (by decide) rfl (lw_g_mk tw_1429 rfl) rfl (Nat.le_of_ble_eq_true rfl) dX6_placed_7 (by rw [hR9]; decide) ?_
  refine x_if_ne C (tgt := 19) dX6_placed_10 (by decide) (fun hc2 => ?_) (fun hc2 => ?_)
  · rw [if_pos hc2] at h
    refine x_aload_n C dX6_placed_19 rfl 0 rfl ?_
    obtain ⟨q2, hk3, h⟩ := Option.bind_eq_some_iff.mp h
    refine x_callV C (As := []) (rest := []) (lw_g_mk tw_1451 rfl) (lw_g_mk tsel_60 rfl) (c_Md) (C1 := "HostelBedsModel") (T := TX6) (N := 27) (ci := 6) rfl (okX6_placesAll l cy D B ek σ (wI μ 60 0 0 (0 : Int32)) ω _ hk3) rfl rfl (by rw [hR9]; decide) (lw_g_mk tw_1452 rfl) (lw_g_mk tw_7 rfl) (by decide) rfl (lw_g_mk tw_1449 rfl) rfl (Nat.le_of_ble_eq_true rfl) dX6_placed_20 (by rw [hR9]; decide) ?_
    refine x_aload_n C dX6_placed_23 rfl 0 rfl ?_
    refine x_get C (C1 := "HostelBedsModel") (T := TX6) (N := 27) (ci := 6) inXg6 _ (c_Md) rfl 22 (by decide) (lw_g_mk tw_1153 rfl) rfl dX6_placed_24 ?_
    refine x_iload_n C dX6_placed_27 rfl 1 rfl ?_
    obtain ⟨hg4, h⟩ := gd_some h
    refine x_iald C _ (c_Bec) hg4 dX6_placed_28 ?_
    cases h
    exact hret _ _ dX6_placed_29 rfl
  · rw [if_neg hc2] at h
    refine x_aload_n C dX6_placed_13 rfl 0 rfl ?_
    refine x_iconst C (v := 1) dX6_placed_14 (by decide) ?_
    obtain ⟨q3, hk5, h⟩ := Option.bind_eq_some_iff.mp h
    refine x_callV C (As := [.int (1 : Int32)]) (rest := []) (lw_g_mk tw_1224 rfl) (lw_g_mk tsel_18 rfl) (c_Md) (C1 := "HostelBedsModel") (T := TX6) (N := 27) (ci := 6) rfl (okX6_fails l cy D B ek (1 : Int32) σ (wI μ 60 0 0 (0 : Int32)) ω _ hk5) rfl rfl (by rw [hR9]; decide) (lw_g_mk tw_1225 rfl) (lw_g_mk tw_7 rfl) (by decide) rfl (lw_g_mk tw_1222 rfl) rfl (Nat.le_of_ble_eq_true rfl) dX6_placed_15 (by rw [hR9]; decide) ?_
    cases h
    exact hret _ _ dX6_placed_18 rfl
def stX6_roomsOf_27 (p1 : Int32) (q2 : Mem) (a27 : Int32 × Int32) : Option ((Int32 × Int32) ⊕ (Int32)) := ((fX6_persons p1 q2).bind fun q3 => (if q3 ≤ a27.2 then (some (.inr a27.1)) else ((fX6_hasBeds p1 q2).bind fun q4 => (if q4 = 0 then (some (.inr a27.1)) else (gd (inb (((12 : Int32) * p1) + a27.2) 204) (some (.inl (a27.1 ||| ((1 : Int32) <<< ((rI q2 78 0 (((12 : Int32) * p1) + a27.2).toNatClampNeg) &&& 31)), a27.2 + (1 : Int32)))))))))
def fX6_roomsOf (p1 : Int32) (μ : Mem) : Option (Int32 × Mem) := ((fX6_isBooking p1 (wI μ 60 0 0 (0 : Int32))).bind fun q1 => (if ¬ q1 = 0 then ((fX6_placesAll (wI μ 60 0 0 (0 : Int32))).bind fun q2 => ((loop (stX6_roomsOf_27 p1 q2) 5000 ((0 : Int32), (0 : Int32))).bind fun b27 => (some (b27, q2)))) else ((fX6_fails (1 : Int32) (wI μ 60 0 0 (0 : Int32))).bind fun q5 => (some (q5.1, q5.2)))))
set_option maxHeartbeats 4000000 in
set_option maxRecDepth 100000 in
theorem okX6_roomsOf (l : Launch) (cy : Nat → ClassId) (D : va_G) (B : Nat) (ek : EK) (p1 : Int32) (σ μ ω : Mem) (res : Int32 × Mem) (h : fX6_roomsOf p1 μ = some res) : CT l cy D B ek yX6_roomsOf cX6_roomsOf 4 (some .int) ({ frames := 8, cells := 0, slots := 0, locals := 185 } : Room) [.ref (B + oMd), .int p1] σ μ ω (some (.int res.1)) σ res.2 ω := by
  refine met_X (own := "HostelBedsModel") (by decide) rfl (Nat.le_of_ble_eq_true rfl) ?_
  intro p e s m args below meth c C hrT hlk
  have hret : ∀ (pc9 : Nat) (lcs9 : List (Nat × Value)), decode cX6_roomsOf pc9 = .ok (.ireturn, 1) → narrow .int (.int res.1) = .int res.1 → X p l e ({ frames := 8, cells := 0, slots := 0, locals := 185 } : Room) s m args below meth c 4 cy D B 0 0 (MQ below (QR cy D B (some (.int res.1)) σ res.2 ω) args s 0 0 (aB B)) pc9 lcs9 [.int res.1] σ res.2 ω := fun _ _ hd hn => x_zret C hrT hlk hn hd
  generalize (MQ below (QR cy D B (some (.int res.1)) σ res.2 ω) args s 0 0 (aB B)) = Q at hret ⊢
  obtain ⟨R, hR9⟩ : ∃ R : Room, R = ({ frames := 8, cells := 0, slots := 0, locals := 185 } : Room) := ⟨_, rfl⟩
  rw [← hR9] at hret ⊢
  unfold fX6_roomsOf at h
  show X p l e R s m args below meth c 4 cy D B 0 0 Q 0 [(0, .ref (B + oMd)), (1, .int p1)] [] σ μ ω
  refine x_aload_n C dX6_roomsOf_0 rfl 0 rfl ?_
  refine x_iconst C (v := 0) dX6_roomsOf_1 (by decide) ?_
  refine x_put C (C1 := "HostelBedsModel") (T := TX6) (N := 27) (ci := 6) inXg6 tyX6 tyX6_ok nmX6 _ (c_Md) rfl 0 (by decide) (lw_g_mk tw_1131 rfl) rfl rfl rfl rfl (Nat.le_of_ble_eq_true rfl) dX6_roomsOf_2 (s_Md_thrown) ?_
  refine x_aload_n C dX6_roomsOf_5 rfl 0 rfl ?_
  refine x_iload_n C dX6_roomsOf_6 rfl 1 rfl ?_
  obtain ⟨q1, hk1, h⟩ := Option.bind_eq_some_iff.mp h
  refine x_callV C (As := [.int p1]) (rest := []) (lw_g_mk tw_1431 rfl) (lw_g_mk tsel_59 rfl) (c_Md) (C1 := "HostelBedsModel") (T := TX6) (N := 27) (ci := 6) rfl (okX6_isBooking l cy D B ek p1 σ (wI μ 60 0 0 (0 : Int32)) ω _ hk1) rfl rfl (by rw [hR9]; decide) (lw_g_mk tw_1432 rfl) (lw_g_mk tw_7 rfl) (by decide) rfl (lw_g_mk tw_1429 rfl) rfl (Nat.le_of_ble_eq_true rfl) dX6_roomsOf_7 (by rw [hR9]; decide) ?_
  refine x_if_ne C (tgt := 19) dX6_roomsOf_10 (by decide) (fun hc2 => ?_) (fun hc2 => ?_)
  · rw [if_pos hc2] at h
    refine x_aload_n C dX6_roomsOf_19 rfl 0 rfl ?_
    obtain ⟨q2, hk3, h⟩ := Option.bind_eq_some_iff.mp h
    refine x_callV C (As := []) (rest := []) (lw_g_mk tw_1451 rfl) (lw_g_mk tsel_60 rfl) (c_Md) (C1 := "HostelBedsModel") (T := TX6) (N := 27) (ci := 6) rfl (okX6_placesAll l cy D B ek σ (wI μ 60 0 0 (0 : Int32)) ω _ hk3) rfl rfl (by rw [hR9]; decide) (lw_g_mk tw_1452 rfl) (lw_g_mk tw_7 rfl) (by decide) rfl (lw_g_mk tw_1449 rfl) rfl (Nat.le_of_ble_eq_true rfl) dX6_roomsOf_20 (by rw [hR9]; decide) ?_
    refine x_iconst C (v := 0) dX6_roomsOf_23 (by decide) ?_
    refine x_istore_n C [(2, .int (0 : Int32)), (0, .ref (B + oMd)), (1, .int p1)] dX6_roomsOf_24 rfl (by decide) rfl ?_
    refine x_iconst C (v := 0) dX6_roomsOf_25 (by decide) ?_
    refine x_istore_n C [(3, .int (0 : Int32)), (2, .int (0 : Int32)), (0, .ref (B + oMd)), (1, .int p1)] dX6_roomsOf_26 rfl (by decide) rfl ?_
    obtain ⟨b27, hk11, h⟩ := Option.bind_eq_some_iff.mp h
    refine x_sub [2, 3, 1, 0] rfl ?_
    refine loop_run (step := stX6_roomsOf_27 p1 q2) (P := fun (a27 : Int32 × Int32) => X p l e R s m args below meth c 4 cy D B 0 0 Q 27 [(0, .ref (B + oMd)), (1, .int p1), (2, .int a27.1), (3, .int a27.2)] [] σ q2 ω) (K := fun (b27 : Int32) => X p l e R s m args below meth c 4 cy D B 0 0 Q 66 [(2, .int b27)] [] σ q2 ω) ?_ 5000 ((0 : Int32), (0 : Int32)) b27 hk11 ?_
    · intro a27 r h hA4 hB5
      unfold stX6_roomsOf_27 at h
      refine x_iload_n C dX6_roomsOf_27 rfl 3 rfl ?_
      refine x_aload_n C dX6_roomsOf_28 rfl 0 rfl ?_
      refine x_iload_n C dX6_roomsOf_29 rfl 1 rfl ?_
      obtain ⟨q3, hk6, h⟩ := Option.bind_eq_some_iff.mp h
      refine x_callV C (As := [.int p1]) (rest := [.int a27.2]) (lw_g_mk tw_1375 rfl) (lw_g_mk tsel_50 rfl) (c_Md) (C1 := "HostelBedsModel") (T := TX6) (N := 27) (ci := 6) rfl (okX6_persons l cy D B ek p1 σ q2 ω _ hk6) rfl rfl (by rw [hR9]; decide) (lw_g_mk tw_1376 rfl) (lw_g_mk tw_7 rfl) (by decide) rfl (lw_g_mk tw_1373 rfl) rfl (Nat.le_of_ble_eq_true rfl) dX6_roomsOf_30 (by rw [hR9]; decide) ?_
      refine x_icmp_ge C (tgt := 66) dX6_roomsOf_33 (by decide) (fun hc7 => ?_) (fun hc7 => ?_)
      · rw [if_pos hc7] at h
        cases h
        refine x_sub [2] rfl ?_
        exact hB5 a27.1 rfl
      · rw [if_neg hc7] at h
        refine x_aload_n C dX6_roomsOf_36 rfl 0 rfl ?_
        refine x_iload_n C dX6_roomsOf_37 rfl 1 rfl ?_
        obtain ⟨q4, hk8, h⟩ := Option.bind_eq_some_iff.mp h
        refine x_callV C (As := [.int p1]) (rest := []) (lw_g_mk tw_1513 rfl) (lw_g_mk tsel_73 rfl) (c_Md) (C1 := "HostelBedsModel") (T := TX6) (N := 27) (ci := 6) rfl (okX6_hasBeds l cy D B ek p1 σ q2 ω _ hk8) rfl rfl (by rw [hR9]; decide) (lw_g_mk tw_1514 rfl) (lw_g_mk tw_7 rfl) (by decide) rfl (lw_g_mk tw_1511 rfl) rfl (Nat.le_of_ble_eq_true rfl) dX6_roomsOf_38 (by rw [hR9]; decide) ?_
        refine x_if_eq C (tgt := 66) dX6_roomsOf_41 (by decide) (fun hc9 => ?_) (fun hc9 => ?_)
        · rw [if_pos hc9] at h
          cases h
          refine x_sub [2] rfl ?_
          exact hB5 a27.1 rfl
        · rw [if_neg hc9] at h
          refine x_iload_n C dX6_roomsOf_44 rfl 2 rfl ?_
          refine x_iconst C (v := 1) dX6_roomsOf_45 (by decide) ?_
          refine x_aload_n C dX6_roomsOf_46 rfl 0 rfl ?_
          refine x_get C (C1 := "HostelBedsModel") (T := TX6) (N := 27) (ci := 6) inXg6 _ (c_Md) rfl 23 (by decide) (lw_g_mk tw_1154 rfl) rfl dX6_roomsOf_47 ?_
          refine x_bipush C (v := 12) dX6_roomsOf_50 (by decide) ?_
          refine x_iload_n C dX6_roomsOf_52 rfl 1 rfl ?_
          refine x_imul C dX6_roomsOf_53 ?_
          refine x_iload_n C dX6_roomsOf_54 rfl 3 rfl ?_
          refine x_iadd C dX6_roomsOf_55 ?_
          obtain ⟨hg10, h⟩ := gd_some h
          refine x_iald C _ (c_SIn) hg10 dX6_roomsOf_56 ?_
          refine x_ishl C dX6_roomsOf_57 ?_
          refine x_ior C dX6_roomsOf_58 ?_
          refine x_istore_n C [(2, .int (a27.1 ||| ((1 : Int32) <<< ((rI q2 78 0 (((12 : Int32) * p1) + a27.2).toNatClampNeg) &&& 31)))), (0, .ref (B + oMd)), (1, .int p1), (3, .int a27.2)] dX6_roomsOf_59 rfl (by decide) rfl ?_
          refine x_iinc C (k := 3) [(3, .int (a27.2 + (1 : Int32))), (2, .int (a27.1 ||| ((1 : Int32) <<< ((rI q2 78 0 (((12 : Int32) * p1) + a27.2).toNatClampNeg) &&& 31)))), (0, .ref (B + oMd)), (1, .int p1)] dX6_roomsOf_60 rfl rfl (by decide) rfl ?_
          refine x_goto C (tgt := 27) dX6_roomsOf_63 (by decide) ?_
          cases h
          refine x_sub [2, 3, 1, 0] rfl ?_
          exact hA4 (a27.1 ||| ((1 : Int32) <<< ((rI q2 78 0 (((12 : Int32) * p1) + a27.2).toNatClampNeg) &&& 31)), a27.2 + (1 : Int32)) rfl
    · show X p l e R s m args below meth c 4 cy D B 0 0 Q 66 [(2, .int b27)] [] σ q2 ω
      refine x_iload_n C dX6_roomsOf_66 rfl 0 rfl ?_
      cases h
      exact hret _ _ dX6_roomsOf_67 rfl
  · rw [if_neg hc2] at h
    refine x_aload_n C dX6_roomsOf_13 rfl 0 rfl ?_
    refine x_iconst C (v := 1) dX6_roomsOf_14 (by decide) ?_
    obtain ⟨q5, hk12, h⟩ := Option.bind_eq_some_iff.mp h
    refine x_callV C (As := [.int (1 : Int32)]) (rest := []) (lw_g_mk tw_1224 rfl) (lw_g_mk tsel_18 rfl) (c_Md) (C1 := "HostelBedsModel") (T := TX6) (N := 27) (ci := 6) rfl (okX6_fails l cy D B ek (1 : Int32) σ (wI μ 60 0 0 (0 : Int32)) ω _ hk12) rfl rfl (by rw [hR9]; decide) (lw_g_mk tw_1225 rfl) (lw_g_mk tw_7 rfl) (by decide) rfl (lw_g_mk tw_1222 rfl) rfl (Nat.le_of_ble_eq_true rfl) dX6_roomsOf_15 (by rw [hR9]; decide) ?_
    cases h
    exact hret _ _ dX6_roomsOf_18 rfl
def fX6_whyNoBed (p1 : Int32) (p2 : Int32) (μ : Mem) : Option (Int32 × Mem) := ((fX6_isBooking p1 μ).bind fun q1 => (if q1 = 0 then (some ((1 : Int32), μ)) else ((fX6_persons p1 μ).bind fun q2 => ((fX6_isIn p2 (0 : Int32) (q2 - (1 : Int32))).bind fun q3 => (if ¬ q3 = 0 then ((fX6_placesAll μ).bind fun q4 => ((fX6_hasBeds p1 q4).bind fun q5 => (if q5 = 0 then (some ((2 : Int32), q4)) else (some ((0 : Int32), q4))))) else (some ((1 : Int32), μ)))))))
set_option maxHeartbeats 4000000 in
set_option maxRecDepth 100000 in
theorem okX6_whyNoBed (l : Launch) (cy : Nat → ClassId) (D : va_G) (B : Nat) (ek : EK) (p1 : Int32) (p2 : Int32) (σ μ ω : Mem) (res : Int32 × Mem) (h : fX6_whyNoBed p1 p2 μ = some res) : CT l cy D B ek yX6_whyNoBed cX6_whyNoBed 3 (some .int) ({ frames := 8, cells := 0, slots := 0, locals := 185 } : Room) [.ref (B + oMd), .int p1, .int p2] σ μ ω (some (.int res.1)) σ res.2 ω := by
  refine met_X (own := "HostelBedsModel") (by decide) rfl (Nat.le_of_ble_eq_true rfl) ?_
  intro p e s m args below meth c C hrT hlk
  have hret : ∀ (pc9 : Nat) (lcs9 : List (Nat × Value)), decode cX6_whyNoBed pc9 = .ok (.ireturn, 1) → narrow .int (.int res.1) = .int res.1 → X p l e ({ frames := 8, cells := 0, slots := 0, locals := 185 } : Room) s m args below meth c 3 cy D B 0 0 (MQ below (QR cy D B (some (.int res.1)) σ res.2 ω) args s 0 0 (aB B)) pc9 lcs9 [.int res.1] σ res.2 ω := fun _ _ hd hn => x_zret C hrT hlk hn hd
  generalize (MQ below (QR cy D B (some (.int res.1)) σ res.2 ω) args s 0 0 (aB B)) = Q at hret ⊢
  obtain ⟨R, hR9⟩ : ∃ R : Room, R = ({ frames := 8, cells := 0, slots := 0, locals := 185 } : Room) := ⟨_, rfl⟩
  rw [← hR9] at hret ⊢
  unfold fX6_whyNoBed at h
  show X p l e R s m args below meth c 3 cy D B 0 0 Q 0 [(0, .ref (B + oMd)), (1, .int p1), (2, .int p2)] [] σ μ ω
  refine x_aload_n C dX6_whyNoBed_0 rfl 0 rfl ?_
  refine x_iload_n C dX6_whyNoBed_1 rfl 1 rfl ?_
  obtain ⟨q1, hk1, h⟩ := Option.bind_eq_some_iff.mp h
  refine x_callV C (As := [.int p1]) (rest := []) (lw_g_mk tw_1431 rfl) (lw_g_mk tsel_59 rfl) (c_Md) (C1 := "HostelBedsModel") (T := TX6) (N := 27) (ci := 6) rfl (okX6_isBooking l cy D B ek p1 σ μ ω _ hk1) rfl rfl (by rw [hR9]; decide) (lw_g_mk tw_1432 rfl) (lw_g_mk tw_7 rfl) (by decide) rfl (lw_g_mk tw_1429 rfl) rfl (Nat.le_of_ble_eq_true rfl) dX6_whyNoBed_2 (by rw [hR9]; decide) ?_
  refine x_if_eq C (tgt := 23) dX6_whyNoBed_5 (by decide) (fun hc2 => ?_) (fun hc2 => ?_)
  · rw [if_pos hc2] at h
    refine x_iconst C (v := 1) dX6_whyNoBed_23 (by decide) ?_
    cases h
    exact hret _ _ dX6_whyNoBed_24 rfl
  · rw [if_neg hc2] at h
    refine x_iload_n C dX6_whyNoBed_8 rfl 2 rfl ?_
    refine x_iconst C (v := 0) dX6_whyNoBed_9 (by decide) ?_
    refine x_aload_n C dX6_whyNoBed_10 rfl 0 rfl ?_
    refine x_iload_n C dX6_whyNoBed_11 rfl 1 rfl ?_
    obtain ⟨q2, hk3, h⟩ := Option.bind_eq_some_iff.mp h
    refine x_callV C (As := [.int p1]) (rest := [.int (0 : Int32), .int p2]) (lw_g_mk tw_1375 rfl) (lw_g_mk tsel_50 rfl) (c_Md) (C1 := "HostelBedsModel") (T := TX6) (N := 27) (ci := 6) rfl (okX6_persons l cy D B ek p1 σ μ ω _ hk3) rfl rfl (by rw [hR9]; decide) (lw_g_mk tw_1376 rfl) (lw_g_mk tw_7 rfl) (by decide) rfl (lw_g_mk tw_1373 rfl) rfl (Nat.le_of_ble_eq_true rfl) dX6_whyNoBed_12 (by rw [hR9]; decide) ?_
    refine x_iconst C (v := 1) dX6_whyNoBed_15 (by decide) ?_
    refine x_isub C dX6_whyNoBed_16 ?_
    obtain ⟨q3, hk4, h⟩ := Option.bind_eq_some_iff.mp h
    refine x_callS C (As := [.int p2, .int (0 : Int32), .int (q2 - (1 : Int32))]) (rest := []) (lw_g_mk tw_1235 rfl) (okX6_isIn l cy D B ek p2 (0 : Int32) (q2 - (1 : Int32)) σ μ ω _ hk4) rfl rfl (by rw [hR9]; decide) (lw_g_mk tw_1236 rfl) (lw_g_mk tw_7 rfl) (by decide) rfl (lw_g_mk tw_1234 rfl) rfl (Nat.le_of_ble_eq_true rfl) dX6_whyNoBed_17 (by rw [hR9]; decide) ?_
    refine x_if_ne C (tgt := 25) dX6_whyNoBed_20 (by decide) (fun hc5 => ?_) (fun hc5 => ?_)
    · rw [if_pos hc5] at h
      refine x_aload_n C dX6_whyNoBed_25 rfl 0 rfl ?_
      obtain ⟨q4, hk6, h⟩ := Option.bind_eq_some_iff.mp h
      refine x_callV C (As := []) (rest := []) (lw_g_mk tw_1451 rfl) (lw_g_mk tsel_60 rfl) (c_Md) (C1 := "HostelBedsModel") (T := TX6) (N := 27) (ci := 6) rfl (okX6_placesAll l cy D B ek σ μ ω _ hk6) rfl rfl (by rw [hR9]; decide) (lw_g_mk tw_1452 rfl) (lw_g_mk tw_7 rfl) (by decide) rfl (lw_g_mk tw_1449 rfl) rfl (Nat.le_of_ble_eq_true rfl) dX6_whyNoBed_26 (by rw [hR9]; decide) ?_
      refine x_aload_n C dX6_whyNoBed_29 rfl 0 rfl ?_
      refine x_iload_n C dX6_whyNoBed_30 rfl 1 rfl ?_
      obtain ⟨q5, hk7, h⟩ := Option.bind_eq_some_iff.mp h
      refine x_callV C (As := [.int p1]) (rest := []) (lw_g_mk tw_1513 rfl) (lw_g_mk tsel_73 rfl) (c_Md) (C1 := "HostelBedsModel") (T := TX6) (N := 27) (ci := 6) rfl (okX6_hasBeds l cy D B ek p1 σ q4 ω _ hk7) rfl rfl (by rw [hR9]; decide) (lw_g_mk tw_1514 rfl) (lw_g_mk tw_7 rfl) (by decide) rfl (lw_g_mk tw_1511 rfl) rfl (Nat.le_of_ble_eq_true rfl) dX6_whyNoBed_31 (by rw [hR9]; decide) ?_
      refine x_if_eq C (tgt := 41) dX6_whyNoBed_34 (by decide) (fun hc8 => ?_) (fun hc8 => ?_)
      · rw [if_pos hc8] at h
        refine x_iconst C (v := 2) dX6_whyNoBed_41 (by decide) ?_
        cases h
        exact hret _ _ dX6_whyNoBed_42 rfl
      · rw [if_neg hc8] at h
        refine x_iconst C (v := 0) dX6_whyNoBed_37 (by decide) ?_
        refine x_goto C (tgt := 42) dX6_whyNoBed_38 (by decide) ?_
        cases h
        exact hret _ _ dX6_whyNoBed_42 rfl
    · rw [if_neg hc5] at h
      refine x_iconst C (v := 1) dX6_whyNoBed_23 (by decide) ?_
      cases h
      exact hret _ _ dX6_whyNoBed_24 rfl
def fX6_roomOf (p1 : Int32) (p2 : Int32) (μ : Mem) : Option (Int32 × Mem) := ((fX6_whyNoBed p1 p2 μ).bind fun q1 => (if ¬ (rI (wI q1.2 60 0 0 q1.1) 60 0 0) = 0 then (some ((0 : Int32), wI q1.2 60 0 0 q1.1)) else (gd (inb (((12 : Int32) * p1) + p2) 204) (some (rI (wI q1.2 60 0 0 q1.1) 78 0 (((12 : Int32) * p1) + p2).toNatClampNeg, wI q1.2 60 0 0 q1.1)))))
set_option maxHeartbeats 4000000 in
set_option maxRecDepth 100000 in
theorem okX6_roomOf (l : Launch) (cy : Nat → ClassId) (D : va_G) (B : Nat) (ek : EK) (p1 : Int32) (p2 : Int32) (σ μ ω : Mem) (res : Int32 × Mem) (h : fX6_roomOf p1 p2 μ = some res) : CT l cy D B ek yX6_roomOf cX6_roomOf 3 (some .int) ({ frames := 9, cells := 0, slots := 0, locals := 207 } : Room) [.ref (B + oMd), .int p1, .int p2] σ μ ω (some (.int res.1)) σ res.2 ω := by
  refine met_X (own := "HostelBedsModel") (by decide) rfl (Nat.le_of_ble_eq_true rfl) ?_
  intro p e s m args below meth c C hrT hlk
  have hret : ∀ (pc9 : Nat) (lcs9 : List (Nat × Value)), decode cX6_roomOf pc9 = .ok (.ireturn, 1) → narrow .int (.int res.1) = .int res.1 → X p l e ({ frames := 9, cells := 0, slots := 0, locals := 207 } : Room) s m args below meth c 3 cy D B 0 0 (MQ below (QR cy D B (some (.int res.1)) σ res.2 ω) args s 0 0 (aB B)) pc9 lcs9 [.int res.1] σ res.2 ω := fun _ _ hd hn => x_zret C hrT hlk hn hd
  generalize (MQ below (QR cy D B (some (.int res.1)) σ res.2 ω) args s 0 0 (aB B)) = Q at hret ⊢
  obtain ⟨R, hR9⟩ : ∃ R : Room, R = ({ frames := 9, cells := 0, slots := 0, locals := 207 } : Room) := ⟨_, rfl⟩
  rw [← hR9] at hret ⊢
  unfold fX6_roomOf at h
  show X p l e R s m args below meth c 3 cy D B 0 0 Q 0 [(0, .ref (B + oMd)), (1, .int p1), (2, .int p2)] [] σ μ ω
  refine x_aload_n C dX6_roomOf_0 rfl 0 rfl ?_
  refine x_aload_n C dX6_roomOf_1 rfl 0 rfl ?_
  refine x_iload_n C dX6_roomOf_2 rfl 1 rfl ?_
  refine x_iload_n C dX6_roomOf_3 rfl 2 rfl ?_
  obtain ⟨q1, hk1, h⟩ := Option.bind_eq_some_iff.mp h
  refine x_callV C (As := [.int p1, .int p2]) (rest := [.ref (B + oMd)]) (lw_g_mk tw_1521 rfl) (lw_g_mk tsel_74 rfl) (c_Md) (C1 := "HostelBedsModel") (T := TX6) (N := 27) (ci := 6) rfl (okX6_whyNoBed l cy D B ek p1 p2 σ μ ω _ hk1) rfl rfl (by rw [hR9]; decide) (lw_g_mk tw_1522 rfl) (lw_g_mk tw_7 rfl) (by decide) rfl (lw_g_mk tw_1519 rfl) rfl (Nat.le_of_ble_eq_true rfl) dX6_roomOf_4 (by rw [hR9]; decide) ?_
  refine x_put C (C1 := "HostelBedsModel") (T := TX6) (N := 27) (ci := 6) inXg6 tyX6 tyX6_ok nmX6 _ (c_Md) rfl 0 (by decide) (lw_g_mk tw_1131 rfl) rfl rfl rfl rfl (Nat.le_of_ble_eq_true rfl) dX6_roomOf_7 (s_Md_thrown) ?_
  refine x_aload_n C dX6_roomOf_10 rfl 0 rfl ?_
  refine x_get C (C1 := "HostelBedsModel") (T := TX6) (N := 27) (ci := 6) inXg6 _ (c_Md) rfl 0 (by decide) (lw_g_mk tw_1131 rfl) rfl dX6_roomOf_11 ?_
  refine x_if_ne C (tgt := 31) dX6_roomOf_14 (by decide) (fun hc2 => ?_) (fun hc2 => ?_)
  · rw [if_pos hc2] at h
    refine x_iconst C (v := 0) dX6_roomOf_31 (by decide) ?_
    cases h
    exact hret _ _ dX6_roomOf_32 rfl
  · rw [if_neg hc2] at h
    refine x_aload_n C dX6_roomOf_17 rfl 0 rfl ?_
    refine x_get C (C1 := "HostelBedsModel") (T := TX6) (N := 27) (ci := 6) inXg6 _ (c_Md) rfl 23 (by decide) (lw_g_mk tw_1154 rfl) rfl dX6_roomOf_18 ?_
    refine x_bipush C (v := 12) dX6_roomOf_21 (by decide) ?_
    refine x_iload_n C dX6_roomOf_23 rfl 1 rfl ?_
    refine x_imul C dX6_roomOf_24 ?_
    refine x_iload_n C dX6_roomOf_25 rfl 2 rfl ?_
    refine x_iadd C dX6_roomOf_26 ?_
    obtain ⟨hg3, h⟩ := gd_some h
    refine x_iald C _ (c_SIn) hg3 dX6_roomOf_27 ?_
    refine x_goto C (tgt := 32) dX6_roomOf_28 (by decide) ?_
    cases h
    exact hret _ _ dX6_roomOf_32 rfl
def fX6_bedOf (p1 : Int32) (p2 : Int32) (μ : Mem) : Option (Int32 × Mem) := ((fX6_whyNoBed p1 p2 μ).bind fun q1 => (if ¬ (rI (wI q1.2 60 0 0 q1.1) 60 0 0) = 0 then (some ((0 : Int32), wI q1.2 60 0 0 q1.1)) else (gd (inb (((12 : Int32) * p1) + p2) 204) (some (rI (wI q1.2 60 0 0 q1.1) 79 0 (((12 : Int32) * p1) + p2).toNatClampNeg, wI q1.2 60 0 0 q1.1)))))
set_option maxHeartbeats 4000000 in
set_option maxRecDepth 100000 in
theorem okX6_bedOf (l : Launch) (cy : Nat → ClassId) (D : va_G) (B : Nat) (ek : EK) (p1 : Int32) (p2 : Int32) (σ μ ω : Mem) (res : Int32 × Mem) (h : fX6_bedOf p1 p2 μ = some res) : CT l cy D B ek yX6_bedOf cX6_bedOf 3 (some .int) ({ frames := 9, cells := 0, slots := 0, locals := 207 } : Room) [.ref (B + oMd), .int p1, .int p2] σ μ ω (some (.int res.1)) σ res.2 ω := by
  refine met_X (own := "HostelBedsModel") (by decide) rfl (Nat.le_of_ble_eq_true rfl) ?_
  intro p e s m args below meth c C hrT hlk
  have hret : ∀ (pc9 : Nat) (lcs9 : List (Nat × Value)), decode cX6_bedOf pc9 = .ok (.ireturn, 1) → narrow .int (.int res.1) = .int res.1 → X p l e ({ frames := 9, cells := 0, slots := 0, locals := 207 } : Room) s m args below meth c 3 cy D B 0 0 (MQ below (QR cy D B (some (.int res.1)) σ res.2 ω) args s 0 0 (aB B)) pc9 lcs9 [.int res.1] σ res.2 ω := fun _ _ hd hn => x_zret C hrT hlk hn hd
  generalize (MQ below (QR cy D B (some (.int res.1)) σ res.2 ω) args s 0 0 (aB B)) = Q at hret ⊢
  obtain ⟨R, hR9⟩ : ∃ R : Room, R = ({ frames := 9, cells := 0, slots := 0, locals := 207 } : Room) := ⟨_, rfl⟩
  rw [← hR9] at hret ⊢
  unfold fX6_bedOf at h
  show X p l e R s m args below meth c 3 cy D B 0 0 Q 0 [(0, .ref (B + oMd)), (1, .int p1), (2, .int p2)] [] σ μ ω
  refine x_aload_n C dX6_bedOf_0 rfl 0 rfl ?_
  refine x_aload_n C dX6_bedOf_1 rfl 0 rfl ?_
  refine x_iload_n C dX6_bedOf_2 rfl 1 rfl ?_
  refine x_iload_n C dX6_bedOf_3 rfl 2 rfl ?_
  obtain ⟨q1, hk1, h⟩ := Option.bind_eq_some_iff.mp h
  refine x_callV C (As := [.int p1, .int p2]) (rest := [.ref (B + oMd)]) (lw_g_mk tw_1521 rfl) (lw_g_mk tsel_74 rfl) (c_Md) (C1 := "HostelBedsModel") (T := TX6) (N := 27) (ci := 6) rfl (okX6_whyNoBed l cy D B ek p1 p2 σ μ ω _ hk1) rfl rfl (by rw [hR9]; decide) (lw_g_mk tw_1522 rfl) (lw_g_mk tw_7 rfl) (by decide) rfl (lw_g_mk tw_1519 rfl) rfl (Nat.le_of_ble_eq_true rfl) dX6_bedOf_4 (by rw [hR9]; decide) ?_
  refine x_put C (C1 := "HostelBedsModel") (T := TX6) (N := 27) (ci := 6) inXg6 tyX6 tyX6_ok nmX6 _ (c_Md) rfl 0 (by decide) (lw_g_mk tw_1131 rfl) rfl rfl rfl rfl (Nat.le_of_ble_eq_true rfl) dX6_bedOf_7 (s_Md_thrown) ?_
  refine x_aload_n C dX6_bedOf_10 rfl 0 rfl ?_
  refine x_get C (C1 := "HostelBedsModel") (T := TX6) (N := 27) (ci := 6) inXg6 _ (c_Md) rfl 0 (by decide) (lw_g_mk tw_1131 rfl) rfl dX6_bedOf_11 ?_
  refine x_if_ne C (tgt := 31) dX6_bedOf_14 (by decide) (fun hc2 => ?_) (fun hc2 => ?_)
  · rw [if_pos hc2] at h
    refine x_iconst C (v := 0) dX6_bedOf_31 (by decide) ?_
    cases h
    exact hret _ _ dX6_bedOf_32 rfl
  · rw [if_neg hc2] at h
    refine x_aload_n C dX6_bedOf_17 rfl 0 rfl ?_
    refine x_get C (C1 := "HostelBedsModel") (T := TX6) (N := 27) (ci := 6) inXg6 _ (c_Md) rfl 24 (by decide) (lw_g_mk tw_1155 rfl) rfl dX6_bedOf_18 ?_
    refine x_bipush C (v := 12) dX6_bedOf_21 (by decide) ?_
    refine x_iload_n C dX6_bedOf_23 rfl 1 rfl ?_
    refine x_imul C dX6_bedOf_24 ?_
    refine x_iload_n C dX6_bedOf_25 rfl 2 rfl ?_
    refine x_iadd C dX6_bedOf_26 ?_
    obtain ⟨hg3, h⟩ := gd_some h
    refine x_iald C _ (c_SOn) hg3 dX6_bedOf_27 ?_
    refine x_goto C (tgt := 32) dX6_bedOf_28 (by decide) ?_
    cases h
    exact hret _ _ dX6_bedOf_32 rfl
def jX6_occupant_21 (μ : Mem) : Option (Int32 × Mem) := ((fX6_fails (1 : Int32) (wI μ 60 0 0 (0 : Int32))).bind fun q2 => (some (q2.1, q2.2)))
def fX6_occupant (p1 : Int32) (p2 : Int32) (p3 : Int32) (μ : Mem) : Option (Int32 × Mem) := ((fX6_isBed p1 p2 (wI μ 60 0 0 (0 : Int32))).bind fun q1 => (if q1 = 0 then (jX6_occupant_21 μ) else ((fX6_isNight p3).bind fun q3 => (if ¬ q3 = 0 then ((fX6_placesAll (wI μ 60 0 0 (0 : Int32))).bind fun q4 => ((fX6_spot p1 p2 p3).bind fun q5 => (gd (inb q5 2400) (some (rI q4 76 0 q5.toNatClampNeg, q4))))) else (jX6_occupant_21 μ)))))
set_option maxHeartbeats 4000000 in
set_option maxRecDepth 100000 in
theorem okX6_occupant (l : Launch) (cy : Nat → ClassId) (D : va_G) (B : Nat) (ek : EK) (p1 : Int32) (p2 : Int32) (p3 : Int32) (σ μ ω : Mem) (res : Int32 × Mem) (h : fX6_occupant p1 p2 p3 μ = some res) : CT l cy D B ek yX6_occupant cX6_occupant 4 (some .int) ({ frames := 8, cells := 0, slots := 0, locals := 185 } : Room) [.ref (B + oMd), .int p1, .int p2, .int p3] σ μ ω (some (.int res.1)) σ res.2 ω := by
  refine met_X (own := "HostelBedsModel") (by decide) rfl (Nat.le_of_ble_eq_true rfl) ?_
  intro p e s m args below meth c C hrT hlk
  have hret : ∀ (pc9 : Nat) (lcs9 : List (Nat × Value)), decode cX6_occupant pc9 = .ok (.ireturn, 1) → narrow .int (.int res.1) = .int res.1 → X p l e ({ frames := 8, cells := 0, slots := 0, locals := 185 } : Room) s m args below meth c 4 cy D B 0 0 (MQ below (QR cy D B (some (.int res.1)) σ res.2 ω) args s 0 0 (aB B)) pc9 lcs9 [.int res.1] σ res.2 ω := fun _ _ hd hn => x_zret C hrT hlk hn hd
  generalize (MQ below (QR cy D B (some (.int res.1)) σ res.2 ω) args s 0 0 (aB B)) = Q at hret ⊢
  obtain ⟨R, hR9⟩ : ∃ R : Room, R = ({ frames := 8, cells := 0, slots := 0, locals := 185 } : Room) := ⟨_, rfl⟩
  rw [← hR9] at hret ⊢
  unfold fX6_occupant at h
  show X p l e R s m args below meth c 4 cy D B 0 0 Q 0 [(0, .ref (B + oMd)), (1, .int p1), (2, .int p2), (3, .int p3)] [] σ μ ω
  refine x_aload_n C dX6_occupant_0 rfl 0 rfl ?_
  refine x_iconst C (v := 0) dX6_occupant_1 (by decide) ?_
  refine x_put C (C1 := "HostelBedsModel") (T := TX6) (N := 27) (ci := 6) inXg6 tyX6 tyX6_ok nmX6 _ (c_Md) rfl 0 (by decide) (lw_g_mk tw_1131 rfl) rfl rfl rfl rfl (Nat.le_of_ble_eq_true rfl) dX6_occupant_2 (s_Md_thrown) ?_
  refine x_aload_n C dX6_occupant_5 rfl 0 rfl ?_
  refine x_iload_n C dX6_occupant_6 rfl 1 rfl ?_
  refine x_iload_n C dX6_occupant_7 rfl 2 rfl ?_
  obtain ⟨q1, hk1, h⟩ := Option.bind_eq_some_iff.mp h
  refine x_callV C (As := [.int p1, .int p2]) (rest := []) (lw_g_mk tw_1533 rfl) (lw_g_mk tsel_75 rfl) (c_Md) (C1 := "HostelBedsModel") (T := TX6) (N := 27) (ci := 6) rfl (okX6_isBed l cy D B ek p1 p2 σ (wI μ 60 0 0 (0 : Int32)) ω _ hk1) rfl rfl (by rw [hR9]; decide) (lw_g_mk tw_1534 rfl) (lw_g_mk tw_7 rfl) (by decide) rfl (lw_g_mk tw_1531 rfl) rfl (Nat.le_of_ble_eq_true rfl) dX6_occupant_8 (by rw [hR9]; decide) ?_
  have hJ3 : ∀ (r9 : Int32 × Mem), jX6_occupant_21 μ = some r9 → (∀ (pc9 : Nat) (lcs9 : List (Nat × Value)), decode cX6_occupant pc9 = .ok (.ireturn, 1) → narrow .int (.int r9.1) = .int r9.1 → X p l e R s m args below meth c 4 cy D B 0 0 Q pc9 lcs9 [.int r9.1] σ r9.2 ω) → X p l e R s m args below meth c 4 cy D B 0 0 Q 21 [(0, .ref (B + oMd))] [] σ (wI μ 60 0 0 (0 : Int32)) ω := by
    intro res9 h hret
    unfold jX6_occupant_21 at h
    refine x_aload_n C dX6_occupant_21 rfl 0 rfl ?_
    refine x_iconst C (v := 1) dX6_occupant_22 (by decide) ?_
    obtain ⟨q2, hk2, h⟩ := Option.bind_eq_some_iff.mp h
    refine x_callV C (As := [.int (1 : Int32)]) (rest := []) (lw_g_mk tw_1224 rfl) (lw_g_mk tsel_18 rfl) (c_Md) (C1 := "HostelBedsModel") (T := TX6) (N := 27) (ci := 6) rfl (okX6_fails l cy D B ek (1 : Int32) σ (wI μ 60 0 0 (0 : Int32)) ω _ hk2) rfl rfl (by rw [hR9]; decide) (lw_g_mk tw_1225 rfl) (lw_g_mk tw_7 rfl) (by decide) rfl (lw_g_mk tw_1222 rfl) rfl (Nat.le_of_ble_eq_true rfl) dX6_occupant_23 (by rw [hR9]; decide) ?_
    cases h
    exact hret _ _ dX6_occupant_26 rfl
  refine x_if_eq C (tgt := 21) dX6_occupant_11 (by decide) (fun hc4 => ?_) (fun hc4 => ?_)
  · rw [if_pos hc4] at h
    refine x_sub [0] rfl ?_
    exact hJ3 _ h hret
  · rw [if_neg hc4] at h
    refine x_iload_n C dX6_occupant_14 rfl 3 rfl ?_
    obtain ⟨q3, hk5, h⟩ := Option.bind_eq_some_iff.mp h
    refine x_callS C (As := [.int p3]) (rest := []) (lw_g_mk tw_1536 rfl) (okX6_isNight l cy D B ek p3 σ (wI μ 60 0 0 (0 : Int32)) ω _ hk5) rfl rfl (by rw [hR9]; decide) (lw_g_mk tw_1537 rfl) (lw_g_mk tw_7 rfl) (by decide) rfl (lw_g_mk tw_1535 rfl) rfl (Nat.le_of_ble_eq_true rfl) dX6_occupant_15 (by rw [hR9]; decide) ?_
    refine x_if_ne C (tgt := 27) dX6_occupant_18 (by decide) (fun hc6 => ?_) (fun hc6 => ?_)
    · rw [if_pos hc6] at h
      refine x_aload_n C dX6_occupant_27 rfl 0 rfl ?_
      obtain ⟨q4, hk7, h⟩ := Option.bind_eq_some_iff.mp h
      refine x_callV C (As := []) (rest := []) (lw_g_mk tw_1451 rfl) (lw_g_mk tsel_60 rfl) (c_Md) (C1 := "HostelBedsModel") (T := TX6) (N := 27) (ci := 6) rfl (okX6_placesAll l cy D B ek σ (wI μ 60 0 0 (0 : Int32)) ω _ hk7) rfl rfl (by rw [hR9]; decide) (lw_g_mk tw_1452 rfl) (lw_g_mk tw_7 rfl) (by decide) rfl (lw_g_mk tw_1449 rfl) rfl (Nat.le_of_ble_eq_true rfl) dX6_occupant_28 (by rw [hR9]; decide) ?_
      refine x_aload_n C dX6_occupant_31 rfl 0 rfl ?_
      refine x_get C (C1 := "HostelBedsModel") (T := TX6) (N := 27) (ci := 6) inXg6 _ (c_Md) rfl 21 (by decide) (lw_g_mk tw_1152 rfl) rfl dX6_occupant_32 ?_
      refine x_iload_n C dX6_occupant_35 rfl 1 rfl ?_
      refine x_iload_n C dX6_occupant_36 rfl 2 rfl ?_
      refine x_iload_n C dX6_occupant_37 rfl 3 rfl ?_
      obtain ⟨q5, hk8, h⟩ := Option.bind_eq_some_iff.mp h
      refine x_callS C (As := [.int p1, .int p2, .int p3]) (rest := [.ref (B + oHold)]) (lw_g_mk tw_1482 rfl) (okX6_spot l cy D B ek p1 p2 p3 σ q4 ω _ hk8) rfl rfl (by rw [hR9]; decide) (lw_g_mk tw_1483 rfl) (lw_g_mk tw_7 rfl) (by decide) rfl (lw_g_mk tw_1481 rfl) rfl (Nat.le_of_ble_eq_true rfl) dX6_occupant_38 (by rw [hR9]; decide) ?_
      obtain ⟨hg9, h⟩ := gd_some h
      refine x_iald C _ (c_Hold) hg9 dX6_occupant_41 ?_
      cases h
      exact hret _ _ dX6_occupant_42 rfl
    · rw [if_neg hc6] at h
      refine x_sub [0] rfl ?_
      exact hJ3 _ h hret
def jX6_freeIn_38 (a5 : Int32 × Int32) (t3 : Int32) : Option ((Int32 × Int32) ⊕ (Int32)) := (some (.inl (a5.1 + t3, a5.2 + (1 : Int32))))
def stX6_freeIn_5 (p1 : Int32) (μ : Mem) (p2 : Int32) (a5 : Int32 × Int32) : Option ((Int32 × Int32) ⊕ (Int32)) := ((fX6_roomIs p1 (1 : Int32) μ).bind fun q1 => (if q1 ≤ a5.2 then (some (.inr a5.1)) else ((fX6_spot p1 a5.2 p2).bind fun q2 => (gd (inb q2 2400) (if ¬ (rI μ 76 0 q2.toNatClampNeg) = (-1 : Int32) then (jX6_freeIn_38 a5 (0 : Int32)) else (jX6_freeIn_38 a5 (1 : Int32)))))))
def fX6_freeIn (p1 : Int32) (p2 : Int32) (μ : Mem) : Option (Int32) := ((loop (stX6_freeIn_5 p1 μ p2) 5000 ((0 : Int32), (0 : Int32))).bind fun b5 => (some b5))
set_option maxHeartbeats 4000000 in
set_option maxRecDepth 100000 in
theorem okX6_freeIn (l : Launch) (cy : Nat → ClassId) (D : va_G) (B : Nat) (ek : EK) (p1 : Int32) (p2 : Int32) (σ μ ω : Mem) (res : Int32) (h : fX6_freeIn p1 p2 μ = some res) : CT l cy D B ek yX6_freeIn cX6_freeIn 5 (some .int) ({ frames := 2, cells := 0, slots := 0, locals := 43 } : Room) [.ref (B + oMd), .int p1, .int p2] σ μ ω (some (.int res)) σ μ ω := by
  refine met_X (own := "HostelBedsModel") (by decide) rfl (Nat.le_of_ble_eq_true rfl) ?_
  intro p e s m args below meth c C hrT hlk
  have hret : ∀ (pc9 : Nat) (lcs9 : List (Nat × Value)), decode cX6_freeIn pc9 = .ok (.ireturn, 1) → narrow .int (.int res) = .int res → X p l e ({ frames := 2, cells := 0, slots := 0, locals := 43 } : Room) s m args below meth c 5 cy D B 0 0 (MQ below (QR cy D B (some (.int res)) σ μ ω) args s 0 0 (aB B)) pc9 lcs9 [.int res] σ μ ω := fun _ _ hd hn => x_zret C hrT hlk hn hd
  generalize (MQ below (QR cy D B (some (.int res)) σ μ ω) args s 0 0 (aB B)) = Q at hret ⊢
  obtain ⟨R, hR9⟩ : ∃ R : Room, R = ({ frames := 2, cells := 0, slots := 0, locals := 43 } : Room) := ⟨_, rfl⟩
  rw [← hR9] at hret ⊢
  unfold fX6_freeIn at h
  show X p l e R s m args below meth c 5 cy D B 0 0 Q 0 [(0, .ref (B + oMd)), (1, .int p1), (2, .int p2)] [] σ μ ω
  refine x_iconst C (v := 0) dX6_freeIn_0 (by decide) ?_
  refine x_istore_n C [(3, .int (0 : Int32)), (0, .ref (B + oMd)), (1, .int p1), (2, .int p2)] dX6_freeIn_1 rfl (by decide) rfl ?_
  refine x_iconst C (v := 0) dX6_freeIn_2 (by decide) ?_
  refine x_istore C [(4, .int (0 : Int32)), (3, .int (0 : Int32)), (0, .ref (B + oMd)), (1, .int p1), (2, .int p2)] dX6_freeIn_3 (by decide) rfl ?_
  obtain ⟨b5, hk9, h⟩ := Option.bind_eq_some_iff.mp h
  refine x_sub [2, 3, 4, 1, 0] rfl ?_
  refine loop_run (step := stX6_freeIn_5 p1 μ p2) (P := fun (a5 : Int32 × Int32) => X p l e R s m args below meth c 5 cy D B 0 0 Q 5 [(0, .ref (B + oMd)), (1, .int p1), (2, .int p2), (3, .int a5.1), (4, .int a5.2)] [] σ μ ω) (K := fun (b5 : Int32) => X p l e R s m args below meth c 5 cy D B 0 0 Q 46 [(3, .int b5)] [] σ μ ω) ?_ 5000 ((0 : Int32), (0 : Int32)) b5 hk9 ?_
  · intro a5 r h hA1 hB2
    unfold stX6_freeIn_5 at h
    refine x_iload C dX6_freeIn_5 4 rfl ?_
    refine x_aload_n C dX6_freeIn_7 rfl 0 rfl ?_
    refine x_iload_n C dX6_freeIn_8 rfl 1 rfl ?_
    refine x_iconst C (v := 1) dX6_freeIn_9 (by decide) ?_
    obtain ⟨q1, hk3, h⟩ := Option.bind_eq_some_iff.mp h
    refine x_callV C (As := [.int p1, .int (1 : Int32)]) (rest := [.int a5.2]) (lw_g_mk tw_1359 rfl) (lw_g_mk tsel_46 rfl) (c_Md) (C1 := "HostelBedsModel") (T := TX6) (N := 27) (ci := 6) rfl (okX6_roomIs l cy D B ek p1 (1 : Int32) σ μ ω _ hk3) rfl rfl (by rw [hR9]; decide) (lw_g_mk tw_1360 rfl) (lw_g_mk tw_7 rfl) (by decide) rfl (lw_g_mk tw_1357 rfl) rfl (Nat.le_of_ble_eq_true rfl) dX6_freeIn_10 (by rw [hR9]; decide) ?_
    refine x_icmp_ge C (tgt := 46) dX6_freeIn_13 (by decide) (fun hc4 => ?_) (fun hc4 => ?_)
    · rw [if_pos hc4] at h
      cases h
      refine x_sub [3] rfl ?_
      exact hB2 a5.1 rfl
    · rw [if_neg hc4] at h
      refine x_iload_n C dX6_freeIn_16 rfl 3 rfl ?_
      refine x_aload_n C dX6_freeIn_17 rfl 0 rfl ?_
      refine x_get C (C1 := "HostelBedsModel") (T := TX6) (N := 27) (ci := 6) inXg6 _ (c_Md) rfl 21 (by decide) (lw_g_mk tw_1152 rfl) rfl dX6_freeIn_18 ?_
      refine x_iload_n C dX6_freeIn_21 rfl 1 rfl ?_
      refine x_iload C dX6_freeIn_22 4 rfl ?_
      refine x_iload_n C dX6_freeIn_24 rfl 2 rfl ?_
      obtain ⟨q2, hk5, h⟩ := Option.bind_eq_some_iff.mp h
      refine x_callS C (As := [.int p1, .int a5.2, .int p2]) (rest := [.ref (B + oHold), .int a5.1]) (lw_g_mk tw_1482 rfl) (okX6_spot l cy D B ek p1 a5.2 p2 σ μ ω _ hk5) rfl rfl (by rw [hR9]; decide) (lw_g_mk tw_1483 rfl) (lw_g_mk tw_7 rfl) (by decide) rfl (lw_g_mk tw_1481 rfl) rfl (Nat.le_of_ble_eq_true rfl) dX6_freeIn_25 (by rw [hR9]; decide) ?_
      obtain ⟨hg6, h⟩ := gd_some h
      refine x_iald C _ (c_Hold) hg6 dX6_freeIn_28 ?_
      refine x_iconst C (v := -1) dX6_freeIn_29 (by decide) ?_
      have hJ7 : ∀ (t3 : Int32) (r9 : (Int32 × Int32) ⊕ (Int32)), jX6_freeIn_38 a5 t3 = some r9 → (∀ a2, r9 = .inl a2 → (fun (a5 : Int32 × Int32) => X p l e R s m args below meth c 5 cy D B 0 0 Q 5 [(0, .ref (B + oMd)), (1, .int p1), (2, .int p2), (3, .int a5.1), (4, .int a5.2)] [] σ μ ω) a2) → (∀ b2, r9 = .inr b2 → (fun (b5 : Int32) => X p l e R s m args below meth c 5 cy D B 0 0 Q 46 [(3, .int b5)] [] σ μ ω) b2) → X p l e R s m args below meth c 5 cy D B 0 0 Q 38 [(0, .ref (B + oMd)), (1, .int p1), (2, .int p2), (4, .int a5.2)] [.int t3, .int a5.1] σ μ ω := by
        intro t3 r h hA1 hB2
        unfold jX6_freeIn_38 at h
        refine x_iadd C dX6_freeIn_38 ?_
        refine x_istore_n C [(3, .int (a5.1 + t3)), (0, .ref (B + oMd)), (1, .int p1), (2, .int p2), (4, .int a5.2)] dX6_freeIn_39 rfl (by decide) rfl ?_
        refine x_iinc C (k := 4) [(4, .int (a5.2 + (1 : Int32))), (3, .int (a5.1 + t3)), (0, .ref (B + oMd)), (1, .int p1), (2, .int p2)] dX6_freeIn_40 rfl rfl (by decide) rfl ?_
        refine x_goto C (tgt := 5) dX6_freeIn_43 (by decide) ?_
        cases h
        refine x_sub [2, 3, 4, 1, 0] rfl ?_
        exact hA1 (a5.1 + t3, a5.2 + (1 : Int32)) rfl
      refine x_icmp_ne C (tgt := 37) dX6_freeIn_30 (by decide) (fun hc8 => ?_) (fun hc8 => ?_)
      · rw [if_pos hc8] at h
        refine x_iconst C (v := 0) dX6_freeIn_37 (by decide) ?_
        refine x_sub [0, 1, 2, 4] rfl ?_
        exact hJ7 (0 : Int32) _ h hA1 hB2
      · rw [if_neg hc8] at h
        refine x_iconst C (v := 1) dX6_freeIn_33 (by decide) ?_
        refine x_goto C (tgt := 38) dX6_freeIn_34 (by decide) ?_
        refine x_sub [0, 1, 2, 4] rfl ?_
        exact hJ7 (1 : Int32) _ h hA1 hB2
  · show X p l e R s m args below meth c 5 cy D B 0 0 Q 46 [(3, .int b5)] [] σ μ ω
    refine x_iload_n C dX6_freeIn_46 rfl 0 rfl ?_
    cases h
    exact hret _ _ dX6_freeIn_47 rfl
def jX6_freeBeds_20 (μ : Mem) : Option (Int32 × Mem) := ((fX6_fails (1 : Int32) (wI μ 60 0 0 (0 : Int32))).bind fun q2 => (some (q2.1, q2.2)))
def fX6_freeBeds (p1 : Int32) (p2 : Int32) (μ : Mem) : Option (Int32 × Mem) := ((fX6_isRoom p1 (wI μ 60 0 0 (0 : Int32))).bind fun q1 => (if q1 = 0 then (jX6_freeBeds_20 μ) else ((fX6_isNight p2).bind fun q3 => (if ¬ q3 = 0 then ((fX6_placesAll (wI μ 60 0 0 (0 : Int32))).bind fun q4 => ((fX6_freeIn p1 p2 q4).bind fun q5 => (some (q5, q4)))) else (jX6_freeBeds_20 μ)))))
set_option maxHeartbeats 4000000 in
set_option maxRecDepth 100000 in
theorem okX6_freeBeds (l : Launch) (cy : Nat → ClassId) (D : va_G) (B : Nat) (ek : EK) (p1 : Int32) (p2 : Int32) (σ μ ω : Mem) (res : Int32 × Mem) (h : fX6_freeBeds p1 p2 μ = some res) : CT l cy D B ek yX6_freeBeds cX6_freeBeds 3 (some .int) ({ frames := 8, cells := 0, slots := 0, locals := 185 } : Room) [.ref (B + oMd), .int p1, .int p2] σ μ ω (some (.int res.1)) σ res.2 ω := by
  refine met_X (own := "HostelBedsModel") (by decide) rfl (Nat.le_of_ble_eq_true rfl) ?_
  intro p e s m args below meth c C hrT hlk
  have hret : ∀ (pc9 : Nat) (lcs9 : List (Nat × Value)), decode cX6_freeBeds pc9 = .ok (.ireturn, 1) → narrow .int (.int res.1) = .int res.1 → X p l e ({ frames := 8, cells := 0, slots := 0, locals := 185 } : Room) s m args below meth c 3 cy D B 0 0 (MQ below (QR cy D B (some (.int res.1)) σ res.2 ω) args s 0 0 (aB B)) pc9 lcs9 [.int res.1] σ res.2 ω := fun _ _ hd hn => x_zret C hrT hlk hn hd
  generalize (MQ below (QR cy D B (some (.int res.1)) σ res.2 ω) args s 0 0 (aB B)) = Q at hret ⊢
  obtain ⟨R, hR9⟩ : ∃ R : Room, R = ({ frames := 8, cells := 0, slots := 0, locals := 185 } : Room) := ⟨_, rfl⟩
  rw [← hR9] at hret ⊢
  unfold fX6_freeBeds at h
  show X p l e R s m args below meth c 3 cy D B 0 0 Q 0 [(0, .ref (B + oMd)), (1, .int p1), (2, .int p2)] [] σ μ ω
  refine x_aload_n C dX6_freeBeds_0 rfl 0 rfl ?_
  refine x_iconst C (v := 0) dX6_freeBeds_1 (by decide) ?_
  refine x_put C (C1 := "HostelBedsModel") (T := TX6) (N := 27) (ci := 6) inXg6 tyX6 tyX6_ok nmX6 _ (c_Md) rfl 0 (by decide) (lw_g_mk tw_1131 rfl) rfl rfl rfl rfl (Nat.le_of_ble_eq_true rfl) dX6_freeBeds_2 (s_Md_thrown) ?_
  refine x_aload_n C dX6_freeBeds_5 rfl 0 rfl ?_
  refine x_iload_n C dX6_freeBeds_6 rfl 1 rfl ?_
  obtain ⟨q1, hk1, h⟩ := Option.bind_eq_some_iff.mp h
  refine x_callV C (As := [.int p1]) (rest := []) (lw_g_mk tw_1423 rfl) (lw_g_mk tsel_58 rfl) (c_Md) (C1 := "HostelBedsModel") (T := TX6) (N := 27) (ci := 6) rfl (okX6_isRoom l cy D B ek p1 σ (wI μ 60 0 0 (0 : Int32)) ω _ hk1) rfl rfl (by rw [hR9]; decide) (lw_g_mk tw_1424 rfl) (lw_g_mk tw_7 rfl) (by decide) rfl (lw_g_mk tw_1421 rfl) rfl (Nat.le_of_ble_eq_true rfl) dX6_freeBeds_7 (by rw [hR9]; decide) ?_
  have hJ3 : ∀ (r9 : Int32 × Mem), jX6_freeBeds_20 μ = some r9 → (∀ (pc9 : Nat) (lcs9 : List (Nat × Value)), decode cX6_freeBeds pc9 = .ok (.ireturn, 1) → narrow .int (.int r9.1) = .int r9.1 → X p l e R s m args below meth c 3 cy D B 0 0 Q pc9 lcs9 [.int r9.1] σ r9.2 ω) → X p l e R s m args below meth c 3 cy D B 0 0 Q 20 [(0, .ref (B + oMd))] [] σ (wI μ 60 0 0 (0 : Int32)) ω := by
    intro res9 h hret
    unfold jX6_freeBeds_20 at h
    refine x_aload_n C dX6_freeBeds_20 rfl 0 rfl ?_
    refine x_iconst C (v := 1) dX6_freeBeds_21 (by decide) ?_
    obtain ⟨q2, hk2, h⟩ := Option.bind_eq_some_iff.mp h
    refine x_callV C (As := [.int (1 : Int32)]) (rest := []) (lw_g_mk tw_1224 rfl) (lw_g_mk tsel_18 rfl) (c_Md) (C1 := "HostelBedsModel") (T := TX6) (N := 27) (ci := 6) rfl (okX6_fails l cy D B ek (1 : Int32) σ (wI μ 60 0 0 (0 : Int32)) ω _ hk2) rfl rfl (by rw [hR9]; decide) (lw_g_mk tw_1225 rfl) (lw_g_mk tw_7 rfl) (by decide) rfl (lw_g_mk tw_1222 rfl) rfl (Nat.le_of_ble_eq_true rfl) dX6_freeBeds_22 (by rw [hR9]; decide) ?_
    cases h
    exact hret _ _ dX6_freeBeds_25 rfl
  refine x_if_eq C (tgt := 20) dX6_freeBeds_10 (by decide) (fun hc4 => ?_) (fun hc4 => ?_)
  · rw [if_pos hc4] at h
    refine x_sub [0] rfl ?_
    exact hJ3 _ h hret
  · rw [if_neg hc4] at h
    refine x_iload_n C dX6_freeBeds_13 rfl 2 rfl ?_
    obtain ⟨q3, hk5, h⟩ := Option.bind_eq_some_iff.mp h
    refine x_callS C (As := [.int p2]) (rest := []) (lw_g_mk tw_1536 rfl) (okX6_isNight l cy D B ek p2 σ (wI μ 60 0 0 (0 : Int32)) ω _ hk5) rfl rfl (by rw [hR9]; decide) (lw_g_mk tw_1537 rfl) (lw_g_mk tw_7 rfl) (by decide) rfl (lw_g_mk tw_1535 rfl) rfl (Nat.le_of_ble_eq_true rfl) dX6_freeBeds_14 (by rw [hR9]; decide) ?_
    refine x_if_ne C (tgt := 26) dX6_freeBeds_17 (by decide) (fun hc6 => ?_) (fun hc6 => ?_)
    · rw [if_pos hc6] at h
      refine x_aload_n C dX6_freeBeds_26 rfl 0 rfl ?_
      obtain ⟨q4, hk7, h⟩ := Option.bind_eq_some_iff.mp h
      refine x_callV C (As := []) (rest := []) (lw_g_mk tw_1451 rfl) (lw_g_mk tsel_60 rfl) (c_Md) (C1 := "HostelBedsModel") (T := TX6) (N := 27) (ci := 6) rfl (okX6_placesAll l cy D B ek σ (wI μ 60 0 0 (0 : Int32)) ω _ hk7) rfl rfl (by rw [hR9]; decide) (lw_g_mk tw_1452 rfl) (lw_g_mk tw_7 rfl) (by decide) rfl (lw_g_mk tw_1449 rfl) rfl (Nat.le_of_ble_eq_true rfl) dX6_freeBeds_27 (by rw [hR9]; decide) ?_
      refine x_aload_n C dX6_freeBeds_30 rfl 0 rfl ?_
      refine x_iload_n C dX6_freeBeds_31 rfl 1 rfl ?_
      refine x_iload_n C dX6_freeBeds_32 rfl 2 rfl ?_
      obtain ⟨q5, hk8, h⟩ := Option.bind_eq_some_iff.mp h
      refine x_callV C (As := [.int p1, .int p2]) (rest := []) (lw_g_mk tw_1544 rfl) (lw_g_mk tsel_76 rfl) (c_Md) (C1 := "HostelBedsModel") (T := TX6) (N := 27) (ci := 6) rfl (okX6_freeIn l cy D B ek p1 p2 σ q4 ω _ hk8) rfl rfl (by rw [hR9]; decide) (lw_g_mk tw_1545 rfl) (lw_g_mk tw_7 rfl) (by decide) rfl (lw_g_mk tw_1542 rfl) rfl (Nat.le_of_ble_eq_true rfl) dX6_freeBeds_33 (by rw [hR9]; decide) ?_
      cases h
      exact hret _ _ dX6_freeBeds_36 rfl
    · rw [if_neg hc6] at h
      refine x_sub [0] rfl ?_
      exact hJ3 _ h hret
