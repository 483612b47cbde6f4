def stX1_forgetStates_7 (j : Nat) (a7 : Int32 × Mem) : Option ((Int32 × Mem) ⊕ (Mem)) := (if (30 : Int32) ≤ a7.1 then (some (.inr a7.2)) else (gd (inb a7.1 30) (some (.inl (a7.1 + (1 : Int32), wI a7.2 29 j a7.1.toNatClampNeg (0 : Int32))))))
def fX1_forgetStates (j : Nat) (σ : Mem) : Option (Mem) := ((loop (stX1_forgetStates_7 j) 5000 ((0 : Int32), wI σ 23 j 0 (0 : Int32))).bind fun b7 => (some b7))
set_option maxHeartbeats 4000000 in
set_option maxRecDepth 100000 in
theorem okX1_forgetStates (l : Launch) (cy : Nat → ClassId) (D : va_G) (B : Nat) (ek : EK) (j : Nat) (σ : Mem) (Y : va_W) (hj : j < 12) (res : Mem) (h : fX1_forgetStates j σ = some res) : CT l cy D B ek yX1_forgetStates cX1_forgetStates 2 none ({ frames := 0, cells := 0, slots := 0, locals := 0 } : Room) [.ref (B + oHo j)] σ Y none res Y := by
  refine met_X (own := "HostelBeds$Hostel") (by decide) rfl (Nat.le_of_ble_eq_true rfl) ?_
  intro p e s m args below meth c C hrT hlk
  have hret : ∀ (pc9 : Nat) (lcs9 : List (Nat × Value)), decode cX1_forgetStates pc9 = .ok (.return_, 1) → X p l e ({ frames := 0, cells := 0, slots := 0, locals := 0 } : Room) s m args below meth c 2 cy D B 0 0 (MQ below (QR cy D B none res Y) args s 0 0 (aB B)) pc9 lcs9 [] res Y := fun _ _ hd => x_vret C hrT hlk hd
  generalize (MQ below (QR cy D B none res Y) args s 0 0 (aB B)) = Q at hret ⊢
  obtain ⟨R, hR9⟩ : ∃ R : Room, R = ({ frames := 0, cells := 0, slots := 0, locals := 0 } : Room) := ⟨_, rfl⟩
  rw [← hR9] at hret ⊢
  unfold fX1_forgetStates at h
  show X p l e R s m args below meth c 2 cy D B 0 0 Q 0 [(0, .ref (B + oHo j))] [] σ Y
  refine x_aload_n C dX1_forgetStates_0 rfl 0 rfl ?_
  refine x_iconst C (v := 0) dX1_forgetStates_1 (by decide) ?_
  refine x_put C (C1 := "HostelBeds$Hostel") (T := TX1) (N := 12) (ci := 3) inXg1 tyX1 tyX1_ok nmX1 _ (c_Ho hj) rfl 6 (by decide) (lw_g_mk tw_203 rfl) rfl rfl rfl rfl (Nat.le_of_ble_eq_true rfl) dX1_forgetStates_2 (s_Ho_queued hj) ?_
  refine x_iconst C (v := 0) dX1_forgetStates_5 (by decide) ?_
  refine x_istore_n C [(1, .int (0 : Int32)), (0, .ref (B + oHo j))] dX1_forgetStates_6 rfl (by decide) rfl ?_
  obtain ⟨b7, hk5, h⟩ := Option.bind_eq_some_iff.mp h
  refine x_sub [1, 0] rfl ?_
  refine loop_run (step := stX1_forgetStates_7 j) (P := fun (a7 : Int32 × Mem) => X p l e R s m args below meth c 2 cy D B 0 0 Q 7 [(0, .ref (B + oHo j)), (1, .int a7.1)] [] a7.2 Y) (K := fun (b7 : Mem) => X p l e R s m args below meth c 2 cy D B 0 0 Q 29 [] [] b7 Y) ?_ 5000 ((0 : Int32), wI σ 23 j 0 (0 : Int32)) b7 hk5 ?_
  · intro a7 r h hA1 hB2
    unfold stX1_forgetStates_7 at h
    refine x_iload_n C dX1_forgetStates_7 rfl 1 rfl ?_
    refine x_aload_n C dX1_forgetStates_8 rfl 0 rfl ?_
    refine x_get C (C1 := "HostelBeds$Hostel") (T := TX1) (N := 12) (ci := 3) inXg1 _ (c_Ho hj) rfl 7 (by decide) (lw_g_mk tw_205 rfl) rfl dX1_forgetStates_9 ?_
    refine x_alen C _ 0 (c_Crd hj) rfl (v := 30) rfl dX1_forgetStates_12 ?_
    refine x_icmp_ge C (tgt := 29) dX1_forgetStates_13 (by decide) (fun hc3 => ?_) (fun hc3 => ?_)
    · rw [if_pos hc3] at h
      cases h
      refine x_sub [] rfl ?_
      exact hB2 a7.2 rfl
    · rw [if_neg hc3] at h
      refine x_aload_n C dX1_forgetStates_16 rfl 0 rfl ?_
      refine x_get C (C1 := "HostelBeds$Hostel") (T := TX1) (N := 12) (ci := 3) inXg1 _ (c_Ho hj) rfl 7 (by decide) (lw_g_mk tw_205 rfl) rfl dX1_forgetStates_17 ?_
      refine x_iload_n C dX1_forgetStates_20 rfl 1 rfl ?_
      refine x_iconst C (v := 0) dX1_forgetStates_21 (by decide) ?_
      obtain ⟨hg4, h⟩ := gd_some h
      refine x_iast C _ (c_Crd hj) hg4 dX1_forgetStates_22 (s_Crd hj) ?_
      refine x_iinc C (k := 1) [(1, .int (a7.1 + (1 : Int32))), (0, .ref (B + oHo j))] dX1_forgetStates_23 rfl rfl (by decide) rfl ?_
      refine x_goto C (tgt := 7) dX1_forgetStates_26 (by decide) ?_
      cases h
      refine x_sub [1, 0] rfl ?_
      exact hA1 (a7.1 + (1 : Int32), wI a7.2 29 j a7.1.toNatClampNeg (0 : Int32)) rfl
  · show X p l e R s m args below meth c 2 cy D B 0 0 Q 29 [] [] b7 Y
    cases h
    exact hret _ _ dX1_forgetStates_29
def fX1_clear (j : Nat) (σ : Mem) : Option (Mem) := ((fX1_forgetStates j (wI (wI (wI σ 20 j 0 (0 : Int32)) 21 j 0 (0 : Int32)) 22 j 0 (0 : Int32))).bind fun q1 => (some (wI (wI (wI (wI q1 24 j 0 (0 : Int32)) 25 j 0 (60 : Int32)) 26 j 0 (7 : Int32)) 27 j 0 (10 : Int32))))
set_option maxHeartbeats 4000000 in
set_option maxRecDepth 100000 in
theorem okX1_clear (l : Launch) (cy : Nat → ClassId) (D : va_G) (B : Nat) (ek : EK) (j : Nat) (σ : Mem) (Y : va_W) (hj : j < 12) (res : Mem) (h : fX1_clear j σ = some res) : CT l cy D B ek yX1_clear cX1_clear 1 none ({ frames := 1, cells := 0, slots := 0, locals := 21 } : Room) [.ref (B + oHo j)] σ Y none res Y := by
  refine met_X (own := "HostelBeds$Hostel") (by decide) rfl (Nat.le_of_ble_eq_true rfl) ?_
  intro p e s m args below meth c C hrT hlk
  have hret : ∀ (pc9 : Nat) (lcs9 : List (Nat × Value)), decode cX1_clear pc9 = .ok (.return_, 1) → X p l e ({ frames := 1, cells := 0, slots := 0, locals := 21 } : Room) s m args below meth c 1 cy D B 0 0 (MQ below (QR cy D B none res Y) args s 0 0 (aB B)) pc9 lcs9 [] res Y := fun _ _ hd => x_vret C hrT hlk hd
  generalize (MQ below (QR cy D B none res Y) args s 0 0 (aB B)) = Q at hret ⊢
  obtain ⟨R, hR9⟩ : ∃ R : Room, R = ({ frames := 1, cells := 0, slots := 0, locals := 21 } : Room) := ⟨_, rfl⟩
  rw [← hR9] at hret ⊢
  unfold fX1_clear at h
  show X p l e R s m args below meth c 1 cy D B 0 0 Q 0 [(0, .ref (B + oHo j))] [] σ Y
  refine x_aload_n C dX1_clear_0 rfl 0 rfl ?_
  refine x_iconst C (v := 0) dX1_clear_1 (by decide) ?_
  refine x_put C (C1 := "HostelBeds$Hostel") (T := TX1) (N := 12) (ci := 3) inXg1 tyX1 tyX1_ok nmX1 _ (c_Ho hj) rfl 1 (by decide) (lw_g_mk tw_186 rfl) rfl rfl rfl rfl (Nat.le_of_ble_eq_true rfl) dX1_clear_2 (s_Ho_roomCount hj) ?_
  refine x_aload_n C dX1_clear_5 rfl 0 rfl ?_
  refine x_iconst C (v := 0) dX1_clear_6 (by decide) ?_
  refine x_put C (C1 := "HostelBeds$Hostel") (T := TX1) (N := 12) (ci := 3) inXg1 tyX1 tyX1_ok nmX1 _ (c_Ho hj) rfl 2 (by decide) (lw_g_mk tw_190 rfl) rfl rfl rfl rfl (Nat.le_of_ble_eq_true rfl) dX1_clear_7 (s_Ho_bedCount hj) ?_
  refine x_aload_n C dX1_clear_10 rfl 0 rfl ?_
  refine x_iconst C (v := 0) dX1_clear_11 (by decide) ?_
  refine x_put C (C1 := "HostelBeds$Hostel") (T := TX1) (N := 12) (ci := 3) inXg1 tyX1 tyX1_ok nmX1 _ (c_Ho hj) rfl 4 (by decide) (lw_g_mk tw_197 rfl) rfl rfl rfl rfl (Nat.le_of_ble_eq_true rfl) dX1_clear_12 (s_Ho_bookingCount hj) ?_
  refine x_aload_n C dX1_clear_15 rfl 0 rfl ?_
  obtain ⟨q1, hk1, h⟩ := Option.bind_eq_some_iff.mp h
  refine x_callV C (As := []) (rest := []) (lw_g_mk tw_179 rfl) (lw_g_mk tw_180 rfl) (c_Ho hj) (C1 := "HostelBeds$Hostel") (T := TX1) (N := 12) (ci := 3) rfl (okX1_forgetStates l cy D B ek j (wI (wI (wI σ 20 j 0 (0 : Int32)) 21 j 0 (0 : Int32)) 22 j 0 (0 : Int32)) Y hj _ hk1) rfl rfl (by rw [hR9]; decide) (lw_g_mk tw_181 rfl) (lw_g_mk tw_3 rfl) (by decide) rfl (lw_g_mk tw_178 rfl) rfl (Nat.le_of_ble_eq_true rfl) dX1_clear_16 (by rw [hR9]; decide) ?_
  refine x_aload_n C dX1_clear_19 rfl 0 rfl ?_
  refine x_iconst C (v := 0) dX1_clear_20 (by decide) ?_
  refine x_put C (C1 := "HostelBeds$Hostel") (T := TX1) (N := 12) (ci := 3) inXg1 tyX1 tyX1_ok nmX1 _ (c_Ho hj) rfl 8 (by decide) (lw_g_mk tw_207 rfl) rfl rfl rfl rfl (Nat.le_of_ble_eq_true rfl) dX1_clear_21 (s_Ho_over hj) ?_
  refine x_aload_n C dX1_clear_24 rfl 0 rfl ?_
  refine x_bipush C (v := 60) dX1_clear_25 (by decide) ?_
  refine x_put C (C1 := "HostelBeds$Hostel") (T := TX1) (N := 12) (ci := 3) inXg1 tyX1 tyX1_ok nmX1 _ (c_Ho hj) rfl 9 (by decide) (lw_g_mk tw_210 rfl) rfl rfl rfl rfl (Nat.le_of_ble_eq_true rfl) dX1_clear_27 (s_Ho_walk hj) ?_
  refine x_aload_n C dX1_clear_30 rfl 0 rfl ?_
  refine x_bipush C (v := 7) dX1_clear_31 (by decide) ?_
  refine x_put C (C1 := "HostelBeds$Hostel") (T := TX1) (N := 12) (ci := 3) inXg1 tyX1 tyX1_ok nmX1 _ (c_Ho hj) rfl 10 (by decide) (lw_g_mk tw_214 rfl) rfl rfl rfl rfl (Nat.le_of_ble_eq_true rfl) dX1_clear_33 (s_Ho_offerNights hj) ?_
  refine x_aload_n C dX1_clear_36 rfl 0 rfl ?_
  refine x_bipush C (v := 10) dX1_clear_37 (by decide) ?_
  refine x_put C (C1 := "HostelBeds$Hostel") (T := TX1) (N := 12) (ci := 3) inXg1 tyX1 tyX1_ok nmX1 _ (c_Ho hj) rfl 11 (by decide) (lw_g_mk tw_218 rfl) rfl rfl rfl rfl (Nat.le_of_ble_eq_true rfl) dX1_clear_39 (s_Ho_offerPercent hj) ?_
  cases h
  exact hret _ _ dX1_clear_42
def jX1_bookingNamed_32 (a2 : Int32) : Option ((Int32) ⊕ ((Unit) ⊕ (Int32))) := (some (.inl (a2 + (1 : Int32))))
def stX1_bookingNamed_2 (σ : Mem) (j : Nat) (p1 : Int64) (a2 : Int32) : Option ((Int32) ⊕ ((Unit) ⊕ (Int32))) := (if (rI σ 22 j 0) ≤ a2 then (some (.inr (.inl ()))) else (if (lg_cmp p1 (0 : Int64)) = 0 then (jX1_bookingNamed_32 a2) else (gd (inb a2 17) (if ¬ (lg_cmp (rJ σ 2 j a2.toNatClampNeg) p1) = 0 then (jX1_bookingNamed_32 a2) else (some (.inr (.inr a2)))))))
def fX1_bookingNamed (j : Nat) (p1 : Int64) (σ : Mem) : Option (Int32) := ((loop (stX1_bookingNamed_2 σ j p1) 5000 ((0 : Int32))).bind fun b2 => Sum.elim (fun z2 => (some ((-1 : Int32)))) (fun w2 => (some w2)) b2)
set_option maxHeartbeats 4000000 in
set_option maxRecDepth 100000 in
theorem okX1_bookingNamed (l : Launch) (cy : Nat → ClassId) (D : va_G) (B : Nat) (ek : EK) (j : Nat) (p1 : Int64) (σ : Mem) (Y : va_W) (hj : j < 12) (res : Int32) (h : fX1_bookingNamed j p1 σ = some res) : CT l cy D B ek yX1_bookingNamed cX1_bookingNamed 4 (some .int) ({ frames := 0, cells := 0, slots := 0, locals := 0 } : Room) [.ref (B + oHo j), .long p1] σ Y (some (.int res)) σ Y := by
  refine met_X (own := "HostelBeds$Hostel") (by decide) rfl (Nat.le_of_ble_eq_true rfl) ?_
  intro p e s m args below meth c C hrT hlk
  have hret : ∀ (pc9 : Nat) (lcs9 : List (Nat × Value)), decode cX1_bookingNamed pc9 = .ok (.ireturn, 1) → narrow .int (.int res) = .int res → X p l e ({ frames := 0, cells := 0, slots := 0, locals := 0 } : Room) s m args below meth c 4 cy D B 0 0 (MQ below (QR cy D B (some (.int res)) σ Y) args s 0 0 (aB B)) pc9 lcs9 [.int res] σ Y := fun _ _ hd hn => x_zret C hrT hlk hn hd
  generalize (MQ below (QR cy D B (some (.int res)) σ Y) args s 0 0 (aB B)) = Q at hret ⊢
  obtain ⟨R, hR9⟩ : ∃ R : Room, R = ({ frames := 0, cells := 0, slots := 0, locals := 0 } : Room) := ⟨_, rfl⟩
  rw [← hR9] at hret ⊢
  unfold fX1_bookingNamed at h
  show X p l e R s m args below meth c 4 cy D B 0 0 Q 0 [(0, .ref (B + oHo j)), (1, .long p1)] [] σ Y
  refine x_iconst C (v := 0) dX1_bookingNamed_0 (by decide) ?_
  refine x_istore_n C [(3, .int (0 : Int32)), (0, .ref (B + oHo j)), (1, .long p1)] dX1_bookingNamed_1 rfl (by decide) rfl ?_
  obtain ⟨b2, hk8, h⟩ := Option.bind_eq_some_iff.mp h
  refine x_sub [1, 2, 0] rfl ?_
  refine loop_run (step := stX1_bookingNamed_2 σ j p1) (P := fun (a2 : Int32) => X p l e R s m args below meth c 4 cy D B 0 0 Q 2 [(0, .ref (B + oHo j)), (1, .long p1), (3, .int a2)] [] σ Y) (K := fun (b2 : (Unit) ⊕ (Int32)) => Sum.elim (fun z2 => X p l e R s m args below meth c 4 cy D B 0 0 Q 38 [] [] σ Y) (fun w2 => ∀ (pc9 : Nat) (lcs9 : List (Nat × Value)), decode cX1_bookingNamed pc9 = .ok (.ireturn, 1) → narrow .int (.int w2) = .int w2 → X p l e R s m args below meth c 4 cy D B 0 0 Q pc9 lcs9 [.int w2] σ Y) b2) ?_ 5000 ((0 : Int32)) b2 hk8 ?_
  · intro a2 r h hA1 hB2
    unfold stX1_bookingNamed_2 at h
    refine x_iload_n C dX1_bookingNamed_2 rfl 2 rfl ?_
    refine x_aload_n C dX1_bookingNamed_3 rfl 0 rfl ?_
    refine x_get C (C1 := "HostelBeds$Hostel") (T := TX1) (N := 12) (ci := 3) inXg1 _ (c_Ho hj) rfl 4 (by decide) (lw_g_mk tw_197 rfl) rfl dX1_bookingNamed_4 ?_
    refine x_icmp_ge C (tgt := 38) dX1_bookingNamed_7 (by decide) (fun hc3 => ?_) (fun hc3 => ?_)
    · rw [if_pos hc3] at h
      cases h
      refine x_sub [] rfl ?_
      exact hB2 (.inl ()) rfl
    · rw [if_neg hc3] at h
      refine x_lload_n C dX1_bookingNamed_10 rfl 1 rfl ?_
      refine x_lconst C (v := 0) dX1_bookingNamed_11 (by decide) ?_
      refine x_lcmp C dX1_bookingNamed_12 ?_
      have hJ4 : ∀ (r9 : (Int32) ⊕ ((Unit) ⊕ (Int32))), jX1_bookingNamed_32 a2 = some r9 → (∀ a2, r9 = .inl a2 → (fun (a2 : Int32) => X p l e R s m args below meth c 4 cy D B 0 0 Q 2 [(0, .ref (B + oHo j)), (1, .long p1), (3, .int a2)] [] σ Y) a2) → (∀ b2, r9 = .inr b2 → (fun (b2 : (Unit) ⊕ (Int32)) => Sum.elim (fun z2 => X p l e R s m args below meth c 4 cy D B 0 0 Q 38 [] [] σ Y) (fun w2 => ∀ (pc9 : Nat) (lcs9 : List (Nat × Value)), decode cX1_bookingNamed pc9 = .ok (.ireturn, 1) → narrow .int (.int w2) = .int w2 → X p l e R s m args below meth c 4 cy D B 0 0 Q pc9 lcs9 [.int w2] σ Y) b2) b2) → X p l e R s m args below meth c 4 cy D B 0 0 Q 32 [(0, .ref (B + oHo j)), (1, .long p1), (3, .int a2)] [] σ Y := by
        intro r h hA1 hB2
        unfold jX1_bookingNamed_32 at h
        refine x_iinc C (k := 2) [(3, .int (a2 + (1 : Int32))), (0, .ref (B + oHo j)), (1, .long p1)] dX1_bookingNamed_32 rfl rfl (by decide) rfl ?_
        refine x_goto C (tgt := 2) dX1_bookingNamed_35 (by decide) ?_
        cases h
        refine x_sub [1, 2, 0] rfl ?_
        exact hA1 (a2 + (1 : Int32)) rfl
      refine x_if_eq C (tgt := 32) dX1_bookingNamed_13 (by decide) (fun hc5 => ?_) (fun hc5 => ?_)
      · rw [if_pos hc5] at h
        exact hJ4 _ h hA1 hB2
      · rw [if_neg hc5] at h
        refine x_aload_n C dX1_bookingNamed_16 rfl 0 rfl ?_
        refine x_get C (C1 := "HostelBeds$Hostel") (T := TX1) (N := 12) (ci := 3) inXg1 _ (c_Ho hj) rfl 3 (by decide) (lw_g_mk tw_193 rfl) rfl dX1_bookingNamed_17 ?_
        refine x_iload_n C dX1_bookingNamed_20 rfl 2 rfl ?_
        obtain ⟨hg6, h⟩ := gd_some h
        refine x_aldq C _ 6 (C1 := "HostelBeds$Booking") (c_Bks hj) rfl hg6 rfl dX1_bookingNamed_21 ?_
        refine x_get C (C1 := "HostelBeds$Booking") (T := TX0) (N := 11) (ci := 2) inXg0 _ (c_Bk hj (inb_lt hg6)) rfl 0 (by decide) (lw_g_mk tw_112 rfl) rfl dX1_bookingNamed_22 ?_
        refine x_lload_n C dX1_bookingNamed_25 rfl 1 rfl ?_
        refine x_lcmp C dX1_bookingNamed_26 ?_
        refine x_if_ne C (tgt := 32) dX1_bookingNamed_27 (by decide) (fun hc7 => ?_) (fun hc7 => ?_)
        · rw [if_pos hc7] at h
          exact hJ4 _ h hA1 hB2
        · rw [if_neg hc7] at h
          refine x_iload_n C dX1_bookingNamed_30 rfl 2 rfl ?_
          cases h
          exact hB2 (.inr a2) rfl _ _ dX1_bookingNamed_31 rfl
  · rcases b2 with z2 | w2
    · rw [Sum.elim_inl] at h
      show X p l e R s m args below meth c 4 cy D B 0 0 Q 38 [] [] σ Y
      refine x_iconst C (v := -1) dX1_bookingNamed_38 (by decide) ?_
      cases h
      exact hret _ _ dX1_bookingNamed_39 rfl
    · rw [Sum.elim_inr] at h
      show ∀ (pc9 : Nat) (lcs9 : List (Nat × Value)), decode cX1_bookingNamed pc9 = .ok (.ireturn, 1) → narrow .int (.int w2) = .int w2 → X p l e R s m args below meth c 4 cy D B 0 0 Q pc9 lcs9 [.int w2] σ Y
      cases h
      exact hret
def stX1_addToCrowd_24 (σ : Mem) (j1 : Nat) (r1 : Nat) (j : Nat) (p2 : Int32) (a24 : Int32 × Mem) : Option ((Int32 × Mem) ⊕ (Mem)) := (if (if (30 : Int32) < ((rI σ 40 j1 r1) + (rI σ 41 j1 r1)) then (30 : Int32) else ((rI σ 40 j1 r1) + (rI σ 41 j1 r1))) ≤ a24.1 then (some (.inr a24.2)) else (gd (inb a24.1 30) (some (.inl (a24.1 + (1 : Int32), wI a24.2 29 j a24.1.toNatClampNeg ((rI a24.2 29 j a24.1.toNatClampNeg) + p2))))))
def fX1_addToCrowd (j : Nat) (j1 : Nat) (r1 : Nat) (p2 : Int32) (σ : Mem) : Option (Mem) := ((loop (stX1_addToCrowd_24 σ j1 r1 j p2) 5000 (rI σ 40 j1 r1, σ)).bind fun b24 => (some b24))
set_option maxHeartbeats 4000000 in
set_option maxRecDepth 100000 in
theorem okX1_addToCrowd (l : Launch) (cy : Nat → ClassId) (D : va_G) (B : Nat) (ek : EK) (j : Nat) (j1 : Nat) (r1 : Nat) (p2 : Int32) (σ : Mem) (Y : va_W) (hj : j < 12) (hj1 : j1 < 12) (hr1 : r1 < 17) (res : Mem) (h : fX1_addToCrowd j j1 r1 p2 σ = some res) : CT l cy D B ek yX1_addToCrowd cX1_addToCrowd 5 none ({ frames := 1, cells := 0, slots := 0, locals := 21 } : Room) [.ref (B + oHo j), .ref (B + oBk j1 r1), .int p2] σ Y none res Y := by
  refine met_X (own := "HostelBeds$Hostel") (by decide) rfl (Nat.le_of_ble_eq_true rfl) ?_
  intro p e s m args below meth c C hrT hlk
  have hret : ∀ (pc9 : Nat) (lcs9 : List (Nat × Value)), decode cX1_addToCrowd pc9 = .ok (.return_, 1) → X p l e ({ frames := 1, cells := 0, slots := 0, locals := 21 } : Room) s m args below meth c 5 cy D B 0 0 (MQ below (QR cy D B none res Y) args s 0 0 (aB B)) pc9 lcs9 [] res Y := fun _ _ hd => x_vret C hrT hlk hd
  generalize (MQ below (QR cy D B none res Y) args s 0 0 (aB B)) = Q at hret ⊢
  obtain ⟨R, hR9⟩ : ∃ R : Room, R = ({ frames := 1, cells := 0, slots := 0, locals := 21 } : Room) := ⟨_, rfl⟩
  rw [← hR9] at hret ⊢
  unfold fX1_addToCrowd at h
  show X p l e R s m args below meth c 5 cy D B 0 0 Q 0 [(0, .ref (B + oHo j)), (1, .ref (B + oBk j1 r1)), (2, .int p2)] [] σ Y
  refine x_aload_n C dX1_addToCrowd_0 rfl 1 rfl ?_
  refine x_get C (C1 := "HostelBeds$Booking") (T := TX0) (N := 11) (ci := 2) inXg0 _ (c_Bk hj1 hr1) rfl 1 (by decide) (lw_g_mk tw_117 rfl) rfl dX1_addToCrowd_1 ?_
  refine x_aload_n C dX1_addToCrowd_4 rfl 1 rfl ?_
  refine x_get C (C1 := "HostelBeds$Booking") (T := TX0) (N := 11) (ci := 2) inXg0 _ (c_Bk hj1 hr1) rfl 2 (by decide) (lw_g_mk tw_121 rfl) rfl dX1_addToCrowd_5 ?_
  refine x_iadd C dX1_addToCrowd_8 ?_
  refine x_aload_n C dX1_addToCrowd_9 rfl 0 rfl ?_
  refine x_get C (C1 := "HostelBeds$Hostel") (T := TX1) (N := 12) (ci := 3) inXg1 _ (c_Ho hj) rfl 7 (by decide) (lw_g_mk tw_205 rfl) rfl dX1_addToCrowd_10 ?_
  refine x_alen C _ 0 (c_Crd hj) rfl (v := 30) rfl dX1_addToCrowd_13 ?_
  refine x_mmin C (lw_g_mk tw_662 rfl) (lw_g_mk tw_663 rfl) (lw_g_mk tw_16 rfl) (lw_g_mk tw_664 rfl) (by rw [hR9]; decide) (by rw [hR9]; exact Nat.le_of_ble_eq_true rfl) (by rw [hR9]; decide) dX1_addToCrowd_14 ?_
  refine x_istore_n C [(3, .int (if (30 : Int32) < ((rI σ 40 j1 r1) + (rI σ 41 j1 r1)) then (30 : Int32) else ((rI σ 40 j1 r1) + (rI σ 41 j1 r1)))), (0, .ref (B + oHo j)), (1, .ref (B + oBk j1 r1)), (2, .int p2)] dX1_addToCrowd_17 rfl (by decide) rfl ?_
  refine x_aload_n C dX1_addToCrowd_18 rfl 2 rfl ?_
  refine x_get C (C1 := "HostelBeds$Booking") (T := TX0) (N := 11) (ci := 2) inXg0 _ (c_Bk hj1 hr1) rfl 1 (by decide) (lw_g_mk tw_117 rfl) rfl dX1_addToCrowd_19 ?_
  refine x_istore C [(4, .int (rI σ 40 j1 r1)), (3, .int (if (30 : Int32) < ((rI σ 40 j1 r1) + (rI σ 41 j1 r1)) then (30 : Int32) else ((rI σ 40 j1 r1) + (rI σ 41 j1 r1)))), (0, .ref (B + oHo j)), (1, .ref (B + oBk j1 r1)), (2, .int p2)] dX1_addToCrowd_22 (by decide) rfl ?_
  obtain ⟨b24, hk5, h⟩ := Option.bind_eq_some_iff.mp h
  refine x_sub [2, 4, 1, 0] rfl ?_
  refine loop_run (step := stX1_addToCrowd_24 σ j1 r1 j p2) (P := fun (a24 : Int32 × Mem) => X p l e R s m args below meth c 5 cy D B 0 0 Q 24 [(0, .ref (B + oHo j)), (2, .int p2), (3, .int (if (30 : Int32) < ((rI σ 40 j1 r1) + (rI σ 41 j1 r1)) then (30 : Int32) else ((rI σ 40 j1 r1) + (rI σ 41 j1 r1)))), (4, .int a24.1)] [] a24.2 Y) (K := fun (b24 : Mem) => X p l e R s m args below meth c 5 cy D B 0 0 Q 47 [] [] b24 Y) ?_ 5000 (rI σ 40 j1 r1, σ) b24 hk5 ?_
  · intro a24 r h hA1 hB2
    unfold stX1_addToCrowd_24 at h
    refine x_iload C dX1_addToCrowd_24 3 rfl ?_
    refine x_iload_n C dX1_addToCrowd_26 rfl 2 rfl ?_
    refine x_icmp_ge C (tgt := 47) dX1_addToCrowd_27 (by decide) (fun hc3 => ?_) (fun hc3 => ?_)
    · rw [if_pos hc3] at h
      cases h
      refine x_sub [] rfl ?_
      exact hB2 a24.2 rfl
    · rw [if_neg hc3] at h
      refine x_aload_n C dX1_addToCrowd_30 rfl 0 rfl ?_
      refine x_get C (C1 := "HostelBeds$Hostel") (T := TX1) (N := 12) (ci := 3) inXg1 _ (c_Ho hj) rfl 7 (by decide) (lw_g_mk tw_205 rfl) rfl dX1_addToCrowd_31 ?_
      refine x_iload C dX1_addToCrowd_34 3 rfl ?_
      refine x_dup2 C dX1_addToCrowd_36 rfl rfl ?_
      obtain ⟨hg4, h⟩ := gd_some h
      refine x_iald C _ (c_Crd hj) hg4 dX1_addToCrowd_37 ?_
      refine x_iload_n C dX1_addToCrowd_38 rfl 1 rfl ?_
      refine x_iadd C dX1_addToCrowd_39 ?_
      refine x_iast C _ (c_Crd hj) hg4 dX1_addToCrowd_40 (s_Crd hj) ?_
      refine x_iinc C (k := 3) [(4, .int (a24.1 + (1 : Int32))), (0, .ref (B + oHo j)), (2, .int p2), (3, .int (if (30 : Int32) < ((rI σ 40 j1 r1) + (rI σ 41 j1 r1)) then (30 : Int32) else ((rI σ 40 j1 r1) + (rI σ 41 j1 r1))))] dX1_addToCrowd_41 rfl rfl (by decide) rfl ?_
      refine x_goto C (tgt := 24) dX1_addToCrowd_44 (by decide) ?_
      cases h
      refine x_sub [1, 2, 3, 0] rfl ?_
      exact hA1 (a24.1 + (1 : Int32), wI a24.2 29 j a24.1.toNatClampNeg ((rI a24.2 29 j a24.1.toNatClampNeg) + p2)) rfl
  · show X p l e R s m args below meth c 5 cy D B 0 0 Q 47 [] [] b24 Y
    cases h
    exact hret _ _ dX1_addToCrowd_47
def fX1_accept (j : Nat) (j1 : Nat) (r1 : Nat) (σ : Mem) : Option (Mem) := ((fX1_addToCrowd j j1 r1 (rI (wI σ 49 j1 r1 (1 : Int32)) 44 j1 r1) (wI σ 49 j1 r1 (1 : Int32))).bind fun q1 => (some q1))
set_option maxHeartbeats 4000000 in
set_option maxRecDepth 100000 in
theorem okX1_accept (l : Launch) (cy : Nat → ClassId) (D : va_G) (B : Nat) (ek : EK) (j : Nat) (j1 : Nat) (r1 : Nat) (σ : Mem) (Y : va_W) (hj : j < 12) (hj1 : j1 < 12) (hr1 : r1 < 17) (res : Mem) (h : fX1_accept j j1 r1 σ = some res) : CT l cy D B ek yX1_accept cX1_accept 2 none ({ frames := 2, cells := 0, slots := 0, locals := 45 } : Room) [.ref (B + oHo j), .ref (B + oBk j1 r1)] σ Y none res Y := by
  refine met_X (own := "HostelBeds$Hostel") (by decide) rfl (Nat.le_of_ble_eq_true rfl) ?_
  intro p e s m args below meth c C hrT hlk
  have hret : ∀ (pc9 : Nat) (lcs9 : List (Nat × Value)), decode cX1_accept pc9 = .ok (.return_, 1) → X p l e ({ frames := 2, cells := 0, slots := 0, locals := 45 } : Room) s m args below meth c 2 cy D B 0 0 (MQ below (QR cy D B none res Y) args s 0 0 (aB B)) pc9 lcs9 [] res Y := fun _ _ hd => x_vret C hrT hlk hd
  generalize (MQ below (QR cy D B none res Y) args s 0 0 (aB B)) = Q at hret ⊢
  obtain ⟨R, hR9⟩ : ∃ R : Room, R = ({ frames := 2, cells := 0, slots := 0, locals := 45 } : Room) := ⟨_, rfl⟩
  rw [← hR9] at hret ⊢
  unfold fX1_accept at h
  show X p l e R s m args below meth c 2 cy D B 0 0 Q 0 [(0, .ref (B + oHo j)), (1, .ref (B + oBk j1 r1))] [] σ Y
  refine x_aload_n C dX1_accept_0 rfl 1 rfl ?_
  refine x_iconst C (v := 1) dX1_accept_1 (by decide) ?_
  refine x_put C (C1 := "HostelBeds$Booking") (T := TX0) (N := 11) (ci := 2) inXg0 tyX0 tyX0_ok nmX0 _ (c_Bk hj1 hr1) rfl 10 (by decide) (lw_g_mk tw_147 rfl) rfl rfl rfl rfl (Nat.le_of_ble_eq_true rfl) dX1_accept_2 (s_Bk_state hj1 hr1) ?_
  refine x_aload_n C dX1_accept_5 rfl 0 rfl ?_
  refine x_aload_n C dX1_accept_6 rfl 1 rfl ?_
  refine x_aload_n C dX1_accept_7 rfl 1 rfl ?_
  refine x_get C (C1 := "HostelBeds$Booking") (T := TX0) (N := 11) (ci := 2) inXg0 _ (c_Bk hj1 hr1) rfl 5 (by decide) (lw_g_mk tw_131 rfl) rfl dX1_accept_8 ?_
  obtain ⟨q1, hk1, h⟩ := Option.bind_eq_some_iff.mp h
  refine x_callV C (As := [.ref (B + oBk j1 r1), .int (rI (wI σ 49 j1 r1 (1 : Int32)) 44 j1 r1)]) (rest := []) (lw_g_mk tw_659 rfl) (lw_g_mk tw_660 rfl) (c_Ho hj) (C1 := "HostelBeds$Hostel") (T := TX1) (N := 12) (ci := 3) rfl (okX1_addToCrowd l cy D B ek j j1 r1 (rI (wI σ 49 j1 r1 (1 : Int32)) 44 j1 r1) (wI σ 49 j1 r1 (1 : Int32)) Y hj hj1 hr1 _ hk1) rfl rfl (by rw [hR9]; decide) (lw_g_mk tw_661 rfl) (lw_g_mk tw_3 rfl) (by decide) rfl (lw_g_mk tw_658 rfl) rfl (Nat.le_of_ble_eq_true rfl) dX1_accept_11 (by rw [hR9]; decide) ?_
  cases h
  exact hret _ _ dX1_accept_14
def jX1_canAccept_52 (a18 : Int32) : Option ((Int32) ⊕ ((Unit) ⊕ (Int32))) := (some (.inl (a18 + (1 : Int32))))
def stX1_canAccept_18 (j1 : Nat) (r1 : Nat) (σ : Mem) (j : Nat) (a18 : Int32) : Option ((Int32) ⊕ ((Unit) ⊕ (Int32))) := (if (30 : Int32) ≤ a18 then (some (.inr (.inl ()))) else ((fX0_staysIn j1 r1 a18 σ).bind fun q1 => (if q1 = 0 then (jX1_canAccept_52 a18) else (gd (inb a18 30) (if ((rI σ 29 j a18.toNatClampNeg) + (rI σ 44 j1 r1)) ≤ (((rI σ 21 j 0) * ((100 : Int32) + (rI σ 24 j 0))) / (100 : Int32)) then (jX1_canAccept_52 a18) else (some (.inr (.inr ((0 : Int32))))))))))
def fX1_canAccept (j : Nat) (j1 : Nat) (r1 : Nat) (σ : Mem) : Option (Int32) := ((loop (stX1_canAccept_18 j1 r1 σ j) 5000 ((0 : Int32))).bind fun b18 => Sum.elim (fun z18 => (some ((1 : Int32)))) (fun w18 => (some w18)) b18)
set_option maxHeartbeats 4000000 in
set_option maxRecDepth 100000 in
theorem okX1_canAccept (l : Launch) (cy : Nat → ClassId) (D : va_G) (B : Nat) (ek : EK) (j : Nat) (j1 : Nat) (r1 : Nat) (σ : Mem) (Y : va_W) (hj : j < 12) (hj1 : j1 < 12) (hr1 : r1 < 17) (res : Int32) (h : fX1_canAccept j j1 r1 σ = some res) : CT l cy D B ek yX1_canAccept cX1_canAccept 4 (some .boolean) ({ frames := 1, cells := 0, slots := 0, locals := 21 } : Room) [.ref (B + oHo j), .ref (B + oBk j1 r1)] σ Y (some (.int res)) σ Y := by
  refine met_X (own := "HostelBeds$Hostel") (by decide) rfl (Nat.le_of_ble_eq_true rfl) ?_
  intro p e s m args below meth c C hrT hlk
  have hret : ∀ (pc9 : Nat) (lcs9 : List (Nat × Value)), decode cX1_canAccept pc9 = .ok (.ireturn, 1) → narrow .boolean (.int res) = .int res → X p l e ({ frames := 1, cells := 0, slots := 0, locals := 21 } : Room) s m args below meth c 4 cy D B 0 0 (MQ below (QR cy D B (some (.int res)) σ Y) args s 0 0 (aB B)) pc9 lcs9 [.int res] σ Y := fun _ _ hd hn => x_zret C hrT hlk hn hd
  generalize (MQ below (QR cy D B (some (.int res)) σ Y) args s 0 0 (aB B)) = Q at hret ⊢
  obtain ⟨R, hR9⟩ : ∃ R : Room, R = ({ frames := 1, cells := 0, slots := 0, locals := 21 } : Room) := ⟨_, rfl⟩
  rw [← hR9] at hret ⊢
  unfold fX1_canAccept at h
  show X p l e R s m args below meth c 4 cy D B 0 0 Q 0 [(0, .ref (B + oHo j)), (1, .ref (B + oBk j1 r1))] [] σ Y
  refine x_aload_n C dX1_canAccept_0 rfl 0 rfl ?_
  refine x_get C (C1 := "HostelBeds$Hostel") (T := TX1) (N := 12) (ci := 3) inXg1 _ (c_Ho hj) rfl 2 (by decide) (lw_g_mk tw_190 rfl) rfl dX1_canAccept_1 ?_
  refine x_bipush C (v := 100) dX1_canAccept_4 (by decide) ?_
  refine x_aload_n C dX1_canAccept_6 rfl 0 rfl ?_
  refine x_get C (C1 := "HostelBeds$Hostel") (T := TX1) (N := 12) (ci := 3) inXg1 _ (c_Ho hj) rfl 8 (by decide) (lw_g_mk tw_207 rfl) rfl dX1_canAccept_7 ?_
  refine x_iadd C dX1_canAccept_10 ?_
  refine x_imul C dX1_canAccept_11 ?_
  refine x_bipush C (v := 100) dX1_canAccept_12 (by decide) ?_
  refine x_idiv C dX1_canAccept_14 (by decide) ?_
  refine x_istore_n C [(2, .int (((rI σ 21 j 0) * ((100 : Int32) + (rI σ 24 j 0))) / (100 : Int32))), (0, .ref (B + oHo j)), (1, .ref (B + oBk j1 r1))] dX1_canAccept_15 rfl (by decide) rfl ?_
  refine x_iconst C (v := 0) dX1_canAccept_16 (by decide) ?_
  refine x_istore_n C [(3, .int (0 : Int32)), (2, .int (((rI σ 21 j 0) * ((100 : Int32) + (rI σ 24 j 0))) / (100 : Int32))), (0, .ref (B + oHo j)), (1, .ref (B + oBk j1 r1))] dX1_canAccept_17 rfl (by decide) rfl ?_
  obtain ⟨b18, hk9, h⟩ := Option.bind_eq_some_iff.mp h
  refine x_sub [2, 3, 1, 0] rfl ?_
  refine loop_run (step := stX1_canAccept_18 j1 r1 σ j) (P := fun (a18 : Int32) => X p l e R s m args below meth c 4 cy D B 0 0 Q 18 [(0, .ref (B + oHo j)), (1, .ref (B + oBk j1 r1)), (2, .int (((rI σ 21 j 0) * ((100 : Int32) + (rI σ 24 j 0))) / (100 : Int32))), (3, .int a18)] [] σ Y) (K := fun (b18 : (Unit) ⊕ (Int32)) => Sum.elim (fun z18 => X p l e R s m args below meth c 4 cy D B 0 0 Q 58 [] [] σ Y) (fun w18 => ∀ (pc9 : Nat) (lcs9 : List (Nat × Value)), decode cX1_canAccept pc9 = .ok (.ireturn, 1) → narrow .boolean (.int w18) = .int w18 → X p l e R s m args below meth c 4 cy D B 0 0 Q pc9 lcs9 [.int w18] σ Y) b18) ?_ 5000 ((0 : Int32)) b18 hk9 ?_
  · intro a18 r h hA1 hB2
    unfold stX1_canAccept_18 at h
    refine x_iload_n C dX1_canAccept_18 rfl 3 rfl ?_
    refine x_aload_n C dX1_canAccept_19 rfl 0 rfl ?_
    refine x_get C (C1 := "HostelBeds$Hostel") (T := TX1) (N := 12) (ci := 3) inXg1 _ (c_Ho hj) rfl 7 (by decide) (lw_g_mk tw_205 rfl) rfl dX1_canAccept_20 ?_
    refine x_alen C _ 0 (c_Crd hj) rfl (v := 30) rfl dX1_canAccept_23 ?_
    refine x_icmp_ge C (tgt := 58) dX1_canAccept_24 (by decide) (fun hc3 => ?_) (fun hc3 => ?_)
    · rw [if_pos hc3] at h
      cases h
      refine x_sub [] rfl ?_
      exact hB2 (.inl ()) rfl
    · rw [if_neg hc3] at h
      refine x_aload_n C dX1_canAccept_27 rfl 1 rfl ?_
      refine x_iload_n C dX1_canAccept_28 rfl 3 rfl ?_
      obtain ⟨q1, hk4, h⟩ := Option.bind_eq_some_iff.mp h
      refine x_callV C (As := [.int a18]) (rest := []) (lw_g_mk tw_651 rfl) (lw_g_mk tw_652 rfl) (c_Bk hj1 hr1) (C1 := "HostelBeds$Booking") (T := TX0) (N := 11) (ci := 2) rfl (okX0_staysIn l cy D B ek j1 r1 a18 σ Y hj1 hr1 _ hk4) rfl rfl (by rw [hR9]; decide) (lw_g_mk tw_653 rfl) (lw_g_mk tw_5 rfl) (by decide) rfl (lw_g_mk tw_650 rfl) rfl (Nat.le_of_ble_eq_true rfl) dX1_canAccept_29 (by rw [hR9]; decide) ?_
      have hJ5 : ∀ (r9 : (Int32) ⊕ ((Unit) ⊕ (Int32))), jX1_canAccept_52 a18 = some r9 → (∀ a2, r9 = .inl a2 → (fun (a18 : Int32) => X p l e R s m args below meth c 4 cy D B 0 0 Q 18 [(0, .ref (B + oHo j)), (1, .ref (B + oBk j1 r1)), (2, .int (((rI σ 21 j 0) * ((100 : Int32) + (rI σ 24 j 0))) / (100 : Int32))), (3, .int a18)] [] σ Y) a2) → (∀ b2, r9 = .inr b2 → (fun (b18 : (Unit) ⊕ (Int32)) => Sum.elim (fun z18 => X p l e R s m args below meth c 4 cy D B 0 0 Q 58 [] [] σ Y) (fun w18 => ∀ (pc9 : Nat) (lcs9 : List (Nat × Value)), decode cX1_canAccept pc9 = .ok (.ireturn, 1) → narrow .boolean (.int w18) = .int w18 → X p l e R s m args below meth c 4 cy D B 0 0 Q pc9 lcs9 [.int w18] σ Y) b18) b2) → X p l e R s m args below meth c 4 cy D B 0 0 Q 52 [(0, .ref (B + oHo j)), (1, .ref (B + oBk j1 r1)), (2, .int (((rI σ 21 j 0) * ((100 : Int32) + (rI σ 24 j 0))) / (100 : Int32))), (3, .int a18)] [] σ Y := by
        intro r h hA1 hB2
        unfold jX1_canAccept_52 at h
        refine x_iinc C (k := 3) [(3, .int (a18 + (1 : Int32))), (0, .ref (B + oHo j)), (1, .ref (B + oBk j1 r1)), (2, .int (((rI σ 21 j 0) * ((100 : Int32) + (rI σ 24 j 0))) / (100 : Int32)))] dX1_canAccept_52 rfl rfl (by decide) rfl ?_
        refine x_goto C (tgt := 18) dX1_canAccept_55 (by decide) ?_
        cases h
        refine x_sub [1, 2, 3, 0] rfl ?_
        exact hA1 (a18 + (1 : Int32)) rfl
      refine x_if_eq C (tgt := 52) dX1_canAccept_32 (by decide) (fun hc6 => ?_) (fun hc6 => ?_)
      · rw [if_pos hc6] at h
        exact hJ5 _ h hA1 hB2
      · rw [if_neg hc6] at h
        refine x_aload_n C dX1_canAccept_35 rfl 0 rfl ?_
        refine x_get C (C1 := "HostelBeds$Hostel") (T := TX1) (N := 12) (ci := 3) inXg1 _ (c_Ho hj) rfl 7 (by decide) (lw_g_mk tw_205 rfl) rfl dX1_canAccept_36 ?_
        refine x_iload_n C dX1_canAccept_39 rfl 3 rfl ?_
        obtain ⟨hg7, h⟩ := gd_some h
        refine x_iald C _ (c_Crd hj) hg7 dX1_canAccept_40 ?_
        refine x_aload_n C dX1_canAccept_41 rfl 1 rfl ?_
        refine x_get C (C1 := "HostelBeds$Booking") (T := TX0) (N := 11) (ci := 2) inXg0 _ (c_Bk hj1 hr1) rfl 5 (by decide) (lw_g_mk tw_131 rfl) rfl dX1_canAccept_42 ?_
        refine x_iadd C dX1_canAccept_45 ?_
        refine x_iload_n C dX1_canAccept_46 rfl 2 rfl ?_
        refine x_icmp_le C (tgt := 52) dX1_canAccept_47 (by decide) (fun hc8 => ?_) (fun hc8 => ?_)
        · rw [if_pos hc8] at h
          exact hJ5 _ h hA1 hB2
        · rw [if_neg hc8] at h
          refine x_iconst C (v := 0) dX1_canAccept_50 (by decide) ?_
          cases h
          exact hB2 (.inr ((0 : Int32))) rfl _ _ dX1_canAccept_51 (nar_Z (Or.inl rfl))
  · rcases b18 with z18 | w18
    · rw [Sum.elim_inl] at h
      show X p l e R s m args below meth c 4 cy D B 0 0 Q 58 [] [] σ Y
      refine x_iconst C (v := 1) dX1_canAccept_58 (by decide) ?_
      cases h
      exact hret _ _ dX1_canAccept_59 (nar_Z (Or.inr rfl))
    · rw [Sum.elim_inr] at h
      show ∀ (pc9 : Nat) (lcs9 : List (Nat × Value)), decode cX1_canAccept pc9 = .ok (.ireturn, 1) → narrow .boolean (.int w18) = .int w18 → X p l e R s m args below meth c 4 cy D B 0 0 Q pc9 lcs9 [.int w18] σ Y
      cases h
      exact hret
def fX1_tell (j : Nat) (p1 : Int32) (σ : Mem) : Option (Mem) := (gd (inb p1 17) ((fX1_canAccept j j p1.toNatClampNeg σ).bind fun q1 => (if q1 = 0 then (if (17 : Int32) ≤ (rI σ 23 j 0) then (some σ) else (gd (inb (rI (wI σ 49 j p1.toNatClampNeg (0 : Int32)) 23 j 0) 17) (some (wI (wI (wI σ 49 j p1.toNatClampNeg (0 : Int32)) 28 j (rI (wI σ 49 j p1.toNatClampNeg (0 : Int32)) 23 j 0).toNatClampNeg p1) 23 j 0 ((rI (wI (wI σ 49 j p1.toNatClampNeg (0 : Int32)) 28 j (rI (wI σ 49 j p1.toNatClampNeg (0 : Int32)) 23 j 0).toNatClampNeg p1) 23 j 0) + (1 : Int32)))))) else ((fX1_accept j j p1.toNatClampNeg σ).bind fun q2 => (some q2)))))
set_option maxHeartbeats 4000000 in
set_option maxRecDepth 100000 in
theorem okX1_tell (l : Launch) (cy : Nat → ClassId) (D : va_G) (B : Nat) (ek : EK) (j : Nat) (p1 : Int32) (σ : Mem) (Y : va_W) (hj : j < 12) (res : Mem) (h : fX1_tell j p1 σ = some res) : CT l cy D B ek yX1_tell cX1_tell 2 none ({ frames := 3, cells := 0, slots := 0, locals := 66 } : Room) [.ref (B + oHo j), .int p1] σ Y none res Y := by
  refine met_X (own := "HostelBeds$Hostel") (by decide) rfl (Nat.le_of_ble_eq_true rfl) ?_
  intro p e s m args below meth c C hrT hlk
  have hret : ∀ (pc9 : Nat) (lcs9 : List (Nat × Value)), decode cX1_tell pc9 = .ok (.return_, 1) → X p l e ({ frames := 3, cells := 0, slots := 0, locals := 66 } : Room) s m args below meth c 2 cy D B 0 0 (MQ below (QR cy D B none res Y) args s 0 0 (aB B)) pc9 lcs9 [] res Y := fun _ _ hd => x_vret C hrT hlk hd
  generalize (MQ below (QR cy D B none res Y) args s 0 0 (aB B)) = Q at hret ⊢
  obtain ⟨R, hR9⟩ : ∃ R : Room, R = ({ frames := 3, cells := 0, slots := 0, locals := 66 } : Room) := ⟨_, rfl⟩
  rw [← hR9] at hret ⊢
  unfold fX1_tell at h
  show X p l e R s m args below meth c 2 cy D B 0 0 Q 0 [(0, .ref (B + oHo j)), (1, .int p1)] [] σ Y
  refine x_aload_n C dX1_tell_0 rfl 0 rfl ?_
  refine x_aload_n C dX1_tell_1 rfl 0 rfl ?_
  refine x_get C (C1 := "HostelBeds$Hostel") (T := TX1) (N := 12) (ci := 3) inXg1 _ (c_Ho hj) rfl 3 (by decide) (lw_g_mk tw_193 rfl) rfl dX1_tell_2 ?_
  refine x_iload_n C dX1_tell_5 rfl 1 rfl ?_
  obtain ⟨hg1, h⟩ := gd_some h
  refine x_aldq C _ 6 (C1 := "HostelBeds$Booking") (c_Bks hj) rfl hg1 rfl dX1_tell_6 ?_
  obtain ⟨q1, hk2, h⟩ := Option.bind_eq_some_iff.mp h
  refine x_callV C (As := [.ref (B + oBk j p1.toNatClampNeg)]) (rest := []) (lw_g_mk tw_647 rfl) (lw_g_mk tw_648 rfl) (c_Ho hj) (C1 := "HostelBeds$Hostel") (T := TX1) (N := 12) (ci := 3) rfl (okX1_canAccept l cy D B ek j j p1.toNatClampNeg σ Y hj hj (inb_lt hg1) _ hk2) rfl rfl (by rw [hR9]; decide) (lw_g_mk tw_649 rfl) (lw_g_mk tw_3 rfl) (by decide) rfl (lw_g_mk tw_646 rfl) rfl (Nat.le_of_ble_eq_true rfl) dX1_tell_7 (by rw [hR9]; decide) ?_
  refine x_if_eq C (tgt := 26) dX1_tell_10 (by decide) (fun hc3 => ?_) (fun hc3 => ?_)
  · rw [if_pos hc3] at h
    refine x_aload_n C dX1_tell_26 rfl 0 rfl ?_
    refine x_get C (C1 := "HostelBeds$Hostel") (T := TX1) (N := 12) (ci := 3) inXg1 _ (c_Ho hj) rfl 6 (by decide) (lw_g_mk tw_203 rfl) rfl dX1_tell_27 ?_
    refine x_aload_n C dX1_tell_30 rfl 0 rfl ?_
    refine x_get C (C1 := "HostelBeds$Hostel") (T := TX1) (N := 12) (ci := 3) inXg1 _ (c_Ho hj) rfl 5 (by decide) (lw_g_mk tw_201 rfl) rfl dX1_tell_31 ?_
    refine x_alen C _ 0 (c_Que hj) rfl (v := 17) rfl dX1_tell_34 ?_
    refine x_icmp_ge C (tgt := 68) dX1_tell_35 (by decide) (fun hc4 => ?_) (fun hc4 => ?_)
    · rw [if_pos hc4] at h
      cases h
      exact hret _ _ dX1_tell_68
    · rw [if_neg hc4] at h
      refine x_aload_n C dX1_tell_38 rfl 0 rfl ?_
      refine x_get C (C1 := "HostelBeds$Hostel") (T := TX1) (N := 12) (ci := 3) inXg1 _ (c_Ho hj) rfl 3 (by decide) (lw_g_mk tw_193 rfl) rfl dX1_tell_39 ?_
      refine x_iload_n C dX1_tell_42 rfl 1 rfl ?_
      refine x_aldq C _ 6 (C1 := "HostelBeds$Booking") (c_Bks hj) rfl hg1 rfl dX1_tell_43 ?_
      refine x_iconst C (v := 0) dX1_tell_44 (by decide) ?_
      refine x_put C (C1 := "HostelBeds$Booking") (T := TX0) (N := 11) (ci := 2) inXg0 tyX0 tyX0_ok nmX0 _ (c_Bk hj (inb_lt hg1)) rfl 10 (by decide) (lw_g_mk tw_147 rfl) rfl rfl rfl rfl (Nat.le_of_ble_eq_true rfl) dX1_tell_45 (s_Bk_state hj (inb_lt hg1)) ?_
      refine x_aload_n C dX1_tell_48 rfl 0 rfl ?_
      refine x_get C (C1 := "HostelBeds$Hostel") (T := TX1) (N := 12) (ci := 3) inXg1 _ (c_Ho hj) rfl 5 (by decide) (lw_g_mk tw_201 rfl) rfl dX1_tell_49 ?_
      refine x_aload_n C dX1_tell_52 rfl 0 rfl ?_
      refine x_get C (C1 := "HostelBeds$Hostel") (T := TX1) (N := 12) (ci := 3) inXg1 _ (c_Ho hj) rfl 6 (by decide) (lw_g_mk tw_203 rfl) rfl dX1_tell_53 ?_
      refine x_iload_n C dX1_tell_56 rfl 1 rfl ?_
      obtain ⟨hg5, h⟩ := gd_some h
      refine x_iast C _ (c_Que hj) hg5 dX1_tell_57 (s_Que hj) ?_
      refine x_aload_n C dX1_tell_58 rfl 0 rfl ?_
      refine x_dup C dX1_tell_59 rfl ?_
      refine x_get C (C1 := "HostelBeds$Hostel") (T := TX1) (N := 12) (ci := 3) inXg1 _ (c_Ho hj) rfl 6 (by decide) (lw_g_mk tw_203 rfl) rfl dX1_tell_60 ?_
      refine x_iconst C (v := 1) dX1_tell_63 (by decide) ?_
      refine x_iadd C dX1_tell_64 ?_
      refine x_put C (C1 := "HostelBeds$Hostel") (T := TX1) (N := 12) (ci := 3) inXg1 tyX1 tyX1_ok nmX1 _ (c_Ho hj) rfl 6 (by decide) (lw_g_mk tw_203 rfl) rfl rfl rfl rfl (Nat.le_of_ble_eq_true rfl) dX1_tell_65 (s_Ho_queued hj) ?_
      cases h
      exact hret _ _ dX1_tell_68
  · rw [if_neg hc3] at h
    refine x_aload_n C dX1_tell_13 rfl 0 rfl ?_
    refine x_aload_n C dX1_tell_14 rfl 0 rfl ?_
    refine x_get C (C1 := "HostelBeds$Hostel") (T := TX1) (N := 12) (ci := 3) inXg1 _ (c_Ho hj) rfl 3 (by decide) (lw_g_mk tw_193 rfl) rfl dX1_tell_15 ?_
    refine x_iload_n C dX1_tell_18 rfl 1 rfl ?_
    refine x_aldq C _ 6 (C1 := "HostelBeds$Booking") (c_Bks hj) rfl hg1 rfl dX1_tell_19 ?_
    obtain ⟨q2, hk6, h⟩ := Option.bind_eq_some_iff.mp h
    refine x_callV C (As := [.ref (B + oBk j p1.toNatClampNeg)]) (rest := []) (lw_g_mk tw_655 rfl) (lw_g_mk tw_656 rfl) (c_Ho hj) (C1 := "HostelBeds$Hostel") (T := TX1) (N := 12) (ci := 3) rfl (okX1_accept l cy D B ek j j p1.toNatClampNeg σ Y hj hj (inb_lt hg1) _ hk6) rfl rfl (by rw [hR9]; decide) (lw_g_mk tw_657 rfl) (lw_g_mk tw_3 rfl) (by decide) rfl (lw_g_mk tw_654 rfl) rfl (Nat.le_of_ble_eq_true rfl) dX1_tell_20 (by rw [hR9]; decide) ?_
    refine x_goto C (tgt := 68) dX1_tell_23 (by decide) ?_
    cases h
    exact hret _ _ dX1_tell_68
def fX1_tellNext (j : Nat) (σ : Mem) : Option (Mem) := ((fX1_tell j (rI σ 22 j 0) σ).bind fun q1 => (some (wI q1 22 j 0 ((rI q1 22 j 0) + (1 : Int32)))))
set_option maxHeartbeats 4000000 in
set_option maxRecDepth 100000 in
theorem okX1_tellNext (l : Launch) (cy : Nat → ClassId) (D : va_G) (B : Nat) (ek : EK) (j : Nat) (σ : Mem) (Y : va_W) (hj : j < 12) (res : Mem) (h : fX1_tellNext j σ = some res) : CT l cy D B ek yX1_tellNext cX1_tellNext 1 none ({ frames := 4, cells := 0, slots := 0, locals := 87 } : Room) [.ref (B + oHo j)] σ Y none res Y := by
  refine met_X (own := "HostelBeds$Hostel") (by decide) rfl (Nat.le_of_ble_eq_true rfl) ?_
  intro p e s m args below meth c C hrT hlk
  have hret : ∀ (pc9 : Nat) (lcs9 : List (Nat × Value)), decode cX1_tellNext pc9 = .ok (.return_, 1) → X p l e ({ frames := 4, cells := 0, slots := 0, locals := 87 } : Room) s m args below meth c 1 cy D B 0 0 (MQ below (QR cy D B none res Y) args s 0 0 (aB B)) pc9 lcs9 [] res Y := fun _ _ hd => x_vret C hrT hlk hd
  generalize (MQ below (QR cy D B none res Y) args s 0 0 (aB B)) = Q at hret ⊢
  obtain ⟨R, hR9⟩ : ∃ R : Room, R = ({ frames := 4, cells := 0, slots := 0, locals := 87 } : Room) := ⟨_, rfl⟩
  rw [← hR9] at hret ⊢
  unfold fX1_tellNext at h
  show X p l e R s m args below meth c 1 cy D B 0 0 Q 0 [(0, .ref (B + oHo j))] [] σ Y
  refine x_aload_n C dX1_tellNext_0 rfl 0 rfl ?_
  refine x_aload_n C dX1_tellNext_1 rfl 0 rfl ?_
  refine x_get C (C1 := "HostelBeds$Hostel") (T := TX1) (N := 12) (ci := 3) inXg1 _ (c_Ho hj) rfl 4 (by decide) (lw_g_mk tw_197 rfl) rfl dX1_tellNext_2 ?_
  obtain ⟨q1, hk1, h⟩ := Option.bind_eq_some_iff.mp h
  refine x_callV C (As := [.int (rI σ 22 j 0)]) (rest := []) (lw_g_mk tw_643 rfl) (lw_g_mk tw_644 rfl) (c_Ho hj) (C1 := "HostelBeds$Hostel") (T := TX1) (N := 12) (ci := 3) rfl (okX1_tell l cy D B ek j (rI σ 22 j 0) σ Y hj _ hk1) rfl rfl (by rw [hR9]; decide) (lw_g_mk tw_645 rfl) (lw_g_mk tw_3 rfl) (by decide) rfl (lw_g_mk tw_642 rfl) rfl (Nat.le_of_ble_eq_true rfl) dX1_tellNext_5 (by rw [hR9]; decide) ?_
  refine x_aload_n C dX1_tellNext_8 rfl 0 rfl ?_
  refine x_dup C dX1_tellNext_9 rfl ?_
  refine x_get C (C1 := "HostelBeds$Hostel") (T := TX1) (N := 12) (ci := 3) inXg1 _ (c_Ho hj) rfl 4 (by decide) (lw_g_mk tw_197 rfl) rfl dX1_tellNext_10 ?_
  refine x_iconst C (v := 1) dX1_tellNext_13 (by decide) ?_
  refine x_iadd C dX1_tellNext_14 ?_
  refine x_put C (C1 := "HostelBeds$Hostel") (T := TX1) (N := 12) (ci := 3) inXg1 tyX1 tyX1_ok nmX1 _ (c_Ho hj) rfl 4 (by decide) (lw_g_mk tw_197 rfl) rfl rfl rfl rfl (Nat.le_of_ble_eq_true rfl) dX1_tellNext_15 (s_Ho_bookingCount hj) ?_
  cases h
  exact hret _ _ dX1_tellNext_18
def jX1_acceptWaiting_55 (a4 : Int32 × Int32 × Mem) (x2 : Int32) (σ3 : Mem) : Option ((Int32 × Int32 × Mem) ⊕ (Int32 × Mem)) := (some (.inl (x2, a4.2.1 + (1 : Int32), σ3)))
def stX1_acceptWaiting_4 (j : Nat) (a4 : Int32 × Int32 × Mem) : Option ((Int32 × Int32 × Mem) ⊕ (Int32 × Mem)) := (if (rI a4.2.2 23 j 0) ≤ a4.2.1 then (some (.inr (a4.1, a4.2.2))) else (gd (inb a4.2.1 17) (gd (inb (rI a4.2.2 28 j a4.2.1.toNatClampNeg) 17) ((fX1_canAccept j j ((rI a4.2.2 28 j a4.2.1.toNatClampNeg).toNatClampNeg) a4.2.2).bind fun q1 => (if q1 = 0 then (gd (inb a4.1 17) (jX1_acceptWaiting_55 a4 (a4.1 + (1 : Int32)) (wI a4.2.2 28 j a4.1.toNatClampNeg (rI a4.2.2 28 j a4.2.1.toNatClampNeg)))) else ((fX1_accept j j ((rI a4.2.2 28 j a4.2.1.toNatClampNeg).toNatClampNeg) a4.2.2).bind fun q4 => (jX1_acceptWaiting_55 a4 a4.1 q4)))))))
def fX1_acceptWaiting (j : Nat) (σ : Mem) : Option (Int32 × Mem) := ((loop (stX1_acceptWaiting_4 j) 5000 ((0 : Int32), (0 : Int32), σ)).bind fun b4 => (some ((rI b4.2 23 j 0) - b4.1, wI b4.2 23 j 0 b4.1)))
set_option maxHeartbeats 4000000 in
set_option maxRecDepth 100000 in
theorem okX1_acceptWaiting (l : Launch) (cy : Nat → ClassId) (D : va_G) (B : Nat) (ek : EK) (j : Nat) (σ : Mem) (Y : va_W) (hj : j < 12) (res : Int32 × Mem) (h : fX1_acceptWaiting j σ = some res) : CT l cy D B ek yX1_acceptWaiting cX1_acceptWaiting 4 (some .int) ({ frames := 3, cells := 0, slots := 0, locals := 66 } : Room) [.ref (B + oHo j)] σ Y (some (.int res.1)) res.2 Y := by
  refine met_X (own := "HostelBeds$Hostel") (by decide) rfl (Nat.le_of_ble_eq_true rfl) ?_
  intro p e s m args below meth c C hrT hlk
  have hret : ∀ (pc9 : Nat) (lcs9 : List (Nat × Value)), decode cX1_acceptWaiting pc9 = .ok (.ireturn, 1) → narrow .int (.int res.1) = .int res.1 → X p l e ({ frames := 3, cells := 0, slots := 0, locals := 66 } : Room) s m args below meth c 4 cy D B 0 0 (MQ below (QR cy D B (some (.int res.1)) res.2 Y) args s 0 0 (aB B)) pc9 lcs9 [.int res.1] res.2 Y := fun _ _ hd hn => x_zret C hrT hlk hn hd
  generalize (MQ below (QR cy D B (some (.int res.1)) res.2 Y) args s 0 0 (aB B)) = Q at hret ⊢
  obtain ⟨R, hR9⟩ : ∃ R : Room, R = ({ frames := 3, cells := 0, slots := 0, locals := 66 } : Room) := ⟨_, rfl⟩
  rw [← hR9] at hret ⊢
  unfold fX1_acceptWaiting at h
  show X p l e R s m args below meth c 4 cy D B 0 0 Q 0 [(0, .ref (B + oHo j))] [] σ Y
  refine x_iconst C (v := 0) dX1_acceptWaiting_0 (by decide) ?_
  refine x_istore_n C [(1, .int (0 : Int32)), (0, .ref (B + oHo j))] dX1_acceptWaiting_1 rfl (by decide) rfl ?_
  refine x_iconst C (v := 0) dX1_acceptWaiting_2 (by decide) ?_
  refine x_istore_n C [(2, .int (0 : Int32)), (1, .int (0 : Int32)), (0, .ref (B + oHo j))] dX1_acceptWaiting_3 rfl (by decide) rfl ?_
  obtain ⟨b4, hk11, h⟩ := Option.bind_eq_some_iff.mp h
  refine x_sub [2, 1, 0] rfl ?_
  refine loop_run (step := stX1_acceptWaiting_4 j) (P := fun (a4 : Int32 × Int32 × Mem) => X p l e R s m args below meth c 4 cy D B 0 0 Q 4 [(0, .ref (B + oHo j)), (1, .int a4.1), (2, .int a4.2.1)] [] a4.2.2 Y) (K := fun (b4 : Int32 × Mem) => X p l e R s m args below meth c 4 cy D B 0 0 Q 61 [(0, .ref (B + oHo j)), (1, .int b4.1)] [] b4.2 Y) ?_ 5000 ((0 : Int32), (0 : Int32), σ) b4 hk11 ?_
  · intro a4 r h hA1 hB2
    unfold stX1_acceptWaiting_4 at h
    refine x_iload_n C dX1_acceptWaiting_4 rfl 2 rfl ?_
    refine x_aload_n C dX1_acceptWaiting_5 rfl 0 rfl ?_
    refine x_get C (C1 := "HostelBeds$Hostel") (T := TX1) (N := 12) (ci := 3) inXg1 _ (c_Ho hj) rfl 6 (by decide) (lw_g_mk tw_203 rfl) rfl dX1_acceptWaiting_6 ?_
    refine x_icmp_ge C (tgt := 61) dX1_acceptWaiting_9 (by decide) (fun hc3 => ?_) (fun hc3 => ?_)
    · rw [if_pos hc3] at h
      cases h
      refine x_sub [0, 1] rfl ?_
      exact hB2 (a4.1, a4.2.2) rfl
    · rw [if_neg hc3] at h
      refine x_aload_n C dX1_acceptWaiting_12 rfl 0 rfl ?_
      refine x_get C (C1 := "HostelBeds$Hostel") (T := TX1) (N := 12) (ci := 3) inXg1 _ (c_Ho hj) rfl 3 (by decide) (lw_g_mk tw_193 rfl) rfl dX1_acceptWaiting_13 ?_
      refine x_aload_n C dX1_acceptWaiting_16 rfl 0 rfl ?_
      refine x_get C (C1 := "HostelBeds$Hostel") (T := TX1) (N := 12) (ci := 3) inXg1 _ (c_Ho hj) rfl 5 (by decide) (lw_g_mk tw_201 rfl) rfl dX1_acceptWaiting_17 ?_
      refine x_iload_n C dX1_acceptWaiting_20 rfl 2 rfl ?_
      obtain ⟨hg4, h⟩ := gd_some h
      refine x_iald C _ (c_Que hj) hg4 dX1_acceptWaiting_21 ?_
      obtain ⟨hg5, h⟩ := gd_some h
      refine x_aldq C _ 6 (C1 := "HostelBeds$Booking") (c_Bks hj) rfl hg5 rfl dX1_acceptWaiting_22 ?_
      refine x_astore_n C [(3, .ref (B + oBk j ((rI a4.2.2 28 j a4.2.1.toNatClampNeg).toNatClampNeg))), (0, .ref (B + oHo j)), (1, .int a4.1), (2, .int a4.2.1)] dX1_acceptWaiting_23 rfl (by decide) rfl ?_
      refine x_aload_n C dX1_acceptWaiting_24 rfl 1 rfl ?_
      refine x_aload_n C dX1_acceptWaiting_25 rfl 0 rfl ?_
      obtain ⟨q1, hk6, h⟩ := Option.bind_eq_some_iff.mp h
      refine x_callV C (As := [.ref (B + oBk j ((rI a4.2.2 28 j a4.2.1.toNatClampNeg).toNatClampNeg))]) (rest := []) (lw_g_mk tw_647 rfl) (lw_g_mk tw_648 rfl) (c_Ho hj) (C1 := "HostelBeds$Hostel") (T := TX1) (N := 12) (ci := 3) rfl (okX1_canAccept l cy D B ek j j ((rI a4.2.2 28 j a4.2.1.toNatClampNeg).toNatClampNeg) a4.2.2 Y hj hj (inb_lt hg5) _ hk6) rfl rfl (by rw [hR9]; decide) (lw_g_mk tw_649 rfl) (lw_g_mk tw_3 rfl) (by decide) rfl (lw_g_mk tw_646 rfl) rfl (Nat.le_of_ble_eq_true rfl) dX1_acceptWaiting_26 (by rw [hR9]; decide) ?_
      have hJ7 : ∀ (x2 : Int32) (σ3 : Mem) (r9 : (Int32 × Int32 × Mem) ⊕ (Int32 × Mem)), jX1_acceptWaiting_55 a4 x2 σ3 = some r9 → (∀ a2, r9 = .inl a2 → (fun (a4 : Int32 × Int32 × Mem) => X p l e R s m args below meth c 4 cy D B 0 0 Q 4 [(0, .ref (B + oHo j)), (1, .int a4.1), (2, .int a4.2.1)] [] a4.2.2 Y) a2) → (∀ b2, r9 = .inr b2 → (fun (b4 : Int32 × Mem) => X p l e R s m args below meth c 4 cy D B 0 0 Q 61 [(0, .ref (B + oHo j)), (1, .int b4.1)] [] b4.2 Y) b2) → X p l e R s m args below meth c 4 cy D B 0 0 Q 55 [(0, .ref (B + oHo j)), (1, .int x2), (2, .int a4.2.1)] [] σ3 Y := by
        intro x2 σ3 r h hA1 hB2
        unfold jX1_acceptWaiting_55 at h
        refine x_iinc C (k := 2) [(2, .int (a4.2.1 + (1 : Int32))), (0, .ref (B + oHo j)), (1, .int x2)] dX1_acceptWaiting_55 rfl rfl (by decide) rfl ?_
        refine x_goto C (tgt := 4) dX1_acceptWaiting_58 (by decide) ?_
        cases h
        refine x_sub [1, 2, 0] rfl ?_
        exact hA1 (x2, a4.2.1 + (1 : Int32), σ3) rfl
      refine x_if_eq C (tgt := 40) dX1_acceptWaiting_29 (by decide) (fun hc8 => ?_) (fun hc8 => ?_)
      · rw [if_pos hc8] at h
        refine x_aload_n C dX1_acceptWaiting_40 rfl 1 rfl ?_
        refine x_get C (C1 := "HostelBeds$Hostel") (T := TX1) (N := 12) (ci := 3) inXg1 _ (c_Ho hj) rfl 5 (by decide) (lw_g_mk tw_201 rfl) rfl dX1_acceptWaiting_41 ?_
        refine x_iload_n C dX1_acceptWaiting_44 rfl 2 rfl ?_
        refine x_aload_n C dX1_acceptWaiting_45 rfl 1 rfl ?_
        refine x_get C (C1 := "HostelBeds$Hostel") (T := TX1) (N := 12) (ci := 3) inXg1 _ (c_Ho hj) rfl 5 (by decide) (lw_g_mk tw_201 rfl) rfl dX1_acceptWaiting_46 ?_
        refine x_iload_n C dX1_acceptWaiting_49 rfl 3 rfl ?_
        refine x_iald C _ (c_Que hj) hg4 dX1_acceptWaiting_50 ?_
        obtain ⟨hg9, h⟩ := gd_some h
        refine x_iast C _ (c_Que hj) hg9 dX1_acceptWaiting_51 (s_Que hj) ?_
        refine x_iinc C (k := 2) [(1, .int (a4.1 + (1 : Int32))), (3, .ref (B + oBk j ((rI a4.2.2 28 j a4.2.1.toNatClampNeg).toNatClampNeg))), (0, .ref (B + oHo j)), (2, .int a4.2.1)] dX1_acceptWaiting_52 rfl rfl (by decide) rfl ?_
        refine x_sub [2, 0, 3] rfl ?_
        exact hJ7 (a4.1 + (1 : Int32)) (wI a4.2.2 28 j a4.1.toNatClampNeg (rI a4.2.2 28 j a4.2.1.toNatClampNeg)) _ h hA1 hB2
      · rw [if_neg hc8] at h
        refine x_aload_n C dX1_acceptWaiting_32 rfl 1 rfl ?_
        refine x_aload_n C dX1_acceptWaiting_33 rfl 0 rfl ?_
        obtain ⟨q4, hk10, h⟩ := Option.bind_eq_some_iff.mp h
        refine x_callV C (As := [.ref (B + oBk j ((rI a4.2.2 28 j a4.2.1.toNatClampNeg).toNatClampNeg))]) (rest := []) (lw_g_mk tw_655 rfl) (lw_g_mk tw_656 rfl) (c_Ho hj) (C1 := "HostelBeds$Hostel") (T := TX1) (N := 12) (ci := 3) rfl (okX1_accept l cy D B ek j j ((rI a4.2.2 28 j a4.2.1.toNatClampNeg).toNatClampNeg) a4.2.2 Y hj hj (inb_lt hg5) _ hk10) rfl rfl (by rw [hR9]; decide) (lw_g_mk tw_657 rfl) (lw_g_mk tw_3 rfl) (by decide) rfl (lw_g_mk tw_654 rfl) rfl (Nat.le_of_ble_eq_true rfl) dX1_acceptWaiting_34 (by rw [hR9]; decide) ?_
        refine x_goto C (tgt := 55) dX1_acceptWaiting_37 (by decide) ?_
        refine x_sub [1, 2, 3] rfl ?_
        exact hJ7 a4.1 q4 _ h hA1 hB2
  · show X p l e R s m args below meth c 4 cy D B 0 0 Q 61 [(0, .ref (B + oHo j)), (1, .int b4.1)] [] b4.2 Y
    refine x_aload_n C dX1_acceptWaiting_61 rfl 0 rfl ?_
    refine x_get C (C1 := "HostelBeds$Hostel") (T := TX1) (N := 12) (ci := 3) inXg1 _ (c_Ho hj) rfl 6 (by decide) (lw_g_mk tw_203 rfl) rfl dX1_acceptWaiting_62 ?_
    refine x_iload_n C dX1_acceptWaiting_65 rfl 1 rfl ?_
    refine x_isub C dX1_acceptWaiting_66 ?_
    refine x_istore_n C [(2, .int ((rI b4.2 23 j 0) - b4.1)), (0, .ref (B + oHo j)), (1, .int b4.1)] dX1_acceptWaiting_67 rfl (by decide) rfl ?_
    refine x_aload_n C dX1_acceptWaiting_68 rfl 1 rfl ?_
    refine x_iload_n C dX1_acceptWaiting_69 rfl 2 rfl ?_
    refine x_put C (C1 := "HostelBeds$Hostel") (T := TX1) (N := 12) (ci := 3) inXg1 tyX1 tyX1_ok nmX1 _ (c_Ho hj) rfl 6 (by decide) (lw_g_mk tw_203 rfl) rfl rfl rfl rfl (Nat.le_of_ble_eq_true rfl) dX1_acceptWaiting_70 (s_Ho_queued hj) ?_
    refine x_iload_n C dX1_acceptWaiting_73 rfl 0 rfl ?_
    cases h
    exact hret _ _ dX1_acceptWaiting_74 rfl
def jX1_drop_80 (a47 : Int32 × Int32 × Mem) (x2 : Int32) (σ3 : Mem) : Option ((Int32 × Int32 × Mem) ⊕ (Int32 × Mem)) := (some (.inl (x2, a47.2.1 + (1 : Int32), σ3)))
def stX1_drop_47 (j : Nat) (p1 : Int32) (a47 : Int32 × Int32 × Mem) : Option ((Int32 × Int32 × Mem) ⊕ (Int32 × Mem)) := (if (rI a47.2.2 23 j 0) ≤ a47.2.1 then (some (.inr (a47.1, a47.2.2))) else (gd (inb a47.2.1 17) (if (rI a47.2.2 28 j a47.2.1.toNatClampNeg) = p1 then (jX1_drop_80 a47 a47.1 a47.2.2) else (gd (inb a47.1 17) (jX1_drop_80 a47 (a47.1 + (1 : Int32)) (wI a47.2.2 28 j a47.1.toNatClampNeg (rI a47.2.2 28 j a47.2.1.toNatClampNeg)))))))
def jX1_drop_33 (j : Nat) (p1 : Int32) (σ1 : Mem) : Option (Mem) := ((loop (stX1_drop_47 j p1) 5000 ((0 : Int32), (0 : Int32), wI σ1 49 j p1.toNatClampNeg (2 : Int32))).bind fun b47 => (some (wI b47.2 23 j 0 b47.1)))
def fX1_drop (j : Nat) (p1 : Int32) (σ : Mem) : Option (Mem) := (gd (inb p1 17) (if ¬ (rI σ 49 j p1.toNatClampNeg) = (1 : Int32) then (jX1_drop_33 j p1 σ) else ((fX1_addToCrowd j j p1.toNatClampNeg (-(rI σ 44 j p1.toNatClampNeg)) σ).bind fun q4 => (jX1_drop_33 j p1 q4))))
set_option maxHeartbeats 4000000 in
set_option maxRecDepth 100000 in
theorem okX1_drop (l : Launch) (cy : Nat → ClassId) (D : va_G) (B : Nat) (ek : EK) (j : Nat) (p1 : Int32) (σ : Mem) (Y : va_W) (hj : j < 12) (res : Mem) (h : fX1_drop j p1 σ = some res) : CT l cy D B ek yX1_drop cX1_drop 4 none ({ frames := 2, cells := 0, slots := 0, locals := 45 } : Room) [.ref (B + oHo j), .int p1] σ Y none res Y := by
  refine met_X (own := "HostelBeds$Hostel") (by decide) rfl (Nat.le_of_ble_eq_true rfl) ?_
  intro p e s m args below meth c C hrT hlk
  have hret : ∀ (pc9 : Nat) (lcs9 : List (Nat × Value)), decode cX1_drop pc9 = .ok (.return_, 1) → X p l e ({ frames := 2, cells := 0, slots := 0, locals := 45 } : Room) s m args below meth c 4 cy D B 0 0 (MQ below (QR cy D B none res Y) args s 0 0 (aB B)) pc9 lcs9 [] res Y := fun _ _ hd => x_vret C hrT hlk hd
  generalize (MQ below (QR cy D B none res Y) args s 0 0 (aB B)) = Q at hret ⊢
  obtain ⟨R, hR9⟩ : ∃ R : Room, R = ({ frames := 2, cells := 0, slots := 0, locals := 45 } : Room) := ⟨_, rfl⟩
  rw [← hR9] at hret ⊢
  unfold fX1_drop at h
  show X p l e R s m args below meth c 4 cy D B 0 0 Q 0 [(0, .ref (B + oHo j)), (1, .int p1)] [] σ Y
  refine x_aload_n C dX1_drop_0 rfl 0 rfl ?_
  refine x_get C (C1 := "HostelBeds$Hostel") (T := TX1) (N := 12) (ci := 3) inXg1 _ (c_Ho hj) rfl 3 (by decide) (lw_g_mk tw_193 rfl) rfl dX1_drop_1 ?_
  refine x_iload_n C dX1_drop_4 rfl 1 rfl ?_
  obtain ⟨hg1, h⟩ := gd_some h
  refine x_aldq C _ 6 (C1 := "HostelBeds$Booking") (c_Bks hj) rfl hg1 rfl dX1_drop_5 ?_
  refine x_get C (C1 := "HostelBeds$Booking") (T := TX0) (N := 11) (ci := 2) inXg0 _ (c_Bk hj (inb_lt hg1)) rfl 10 (by decide) (lw_g_mk tw_147 rfl) rfl dX1_drop_6 ?_
  refine x_iconst C (v := 1) dX1_drop_9 (by decide) ?_
  have hJ10 : ∀ (σ1 : Mem) (r9 : Mem), jX1_drop_33 j p1 σ1 = some r9 → (∀ (pc9 : Nat) (lcs9 : List (Nat × Value)), decode cX1_drop pc9 = .ok (.return_, 1) → X p l e R s m args below meth c 4 cy D B 0 0 Q pc9 lcs9 [] r9 Y) → X p l e R s m args below meth c 4 cy D B 0 0 Q 33 [(0, .ref (B + oHo j)), (1, .int p1)] [] σ1 Y := by
    intro σ1 res9 h hret
    unfold jX1_drop_33 at h
    refine x_aload_n C dX1_drop_33 rfl 0 rfl ?_
    refine x_get C (C1 := "HostelBeds$Hostel") (T := TX1) (N := 12) (ci := 3) inXg1 _ (c_Ho hj) rfl 3 (by decide) (lw_g_mk tw_193 rfl) rfl dX1_drop_34 ?_
    refine x_iload_n C dX1_drop_37 rfl 1 rfl ?_
    refine x_aldq C _ 6 (C1 := "HostelBeds$Booking") (c_Bks hj) rfl hg1 rfl dX1_drop_38 ?_
    refine x_iconst C (v := 2) dX1_drop_39 (by decide) ?_
    refine x_put C (C1 := "HostelBeds$Booking") (T := TX0) (N := 11) (ci := 2) inXg0 tyX0 tyX0_ok nmX0 _ (c_Bk hj (inb_lt hg1)) rfl 10 (by decide) (lw_g_mk tw_147 rfl) rfl rfl rfl rfl (Nat.le_of_ble_eq_true rfl) dX1_drop_40 (s_Bk_state hj (inb_lt hg1)) ?_
    refine x_iconst C (v := 0) dX1_drop_43 (by decide) ?_
    refine x_istore_n C [(2, .int (0 : Int32)), (0, .ref (B + oHo j)), (1, .int p1)] dX1_drop_44 rfl (by decide) rfl ?_
    refine x_iconst C (v := 0) dX1_drop_45 (by decide) ?_
    refine x_istore_n C [(3, .int (0 : Int32)), (2, .int (0 : Int32)), (0, .ref (B + oHo j)), (1, .int p1)] dX1_drop_46 rfl (by decide) rfl ?_
    obtain ⟨b47, hk9, h⟩ := Option.bind_eq_some_iff.mp h
    refine x_sub [2, 3, 1, 0] rfl ?_
    refine loop_run (step := stX1_drop_47 j p1) (P := fun (a47 : Int32 × Int32 × Mem) => X p l e R s m args below meth c 4 cy D B 0 0 Q 47 [(0, .ref (B + oHo j)), (1, .int p1), (2, .int a47.1), (3, .int a47.2.1)] [] a47.2.2 Y) (K := fun (b47 : Int32 × Mem) => X p l e R s m args below meth c 4 cy D B 0 0 Q 86 [(0, .ref (B + oHo j)), (2, .int b47.1)] [] b47.2 Y) ?_ 5000 ((0 : Int32), (0 : Int32), wI σ1 49 j p1.toNatClampNeg (2 : Int32)) b47 hk9 ?_
    · intro a47 r h hA2 hB3
      unfold stX1_drop_47 at h
      refine x_iload_n C dX1_drop_47 rfl 3 rfl ?_
      refine x_aload_n C dX1_drop_48 rfl 0 rfl ?_
      refine x_get C (C1 := "HostelBeds$Hostel") (T := TX1) (N := 12) (ci := 3) inXg1 _ (c_Ho hj) rfl 6 (by decide) (lw_g_mk tw_203 rfl) rfl dX1_drop_49 ?_
      refine x_icmp_ge C (tgt := 86) dX1_drop_52 (by decide) (fun hc4 => ?_) (fun hc4 => ?_)
      · rw [if_pos hc4] at h
        cases h
        refine x_sub [0, 2] rfl ?_
        exact hB3 (a47.1, a47.2.2) rfl
      · rw [if_neg hc4] at h
        refine x_aload_n C dX1_drop_55 rfl 0 rfl ?_
        refine x_get C (C1 := "HostelBeds$Hostel") (T := TX1) (N := 12) (ci := 3) inXg1 _ (c_Ho hj) rfl 5 (by decide) (lw_g_mk tw_201 rfl) rfl dX1_drop_56 ?_
        refine x_iload_n C dX1_drop_59 rfl 3 rfl ?_
        obtain ⟨hg5, h⟩ := gd_some h
        refine x_iald C _ (c_Que hj) hg5 dX1_drop_60 ?_
        refine x_iload_n C dX1_drop_61 rfl 1 rfl ?_
        have hJ6 : ∀ (x2 : Int32) (σ3 : Mem) (r9 : (Int32 × Int32 × Mem) ⊕ (Int32 × Mem)), jX1_drop_80 a47 x2 σ3 = some r9 → (∀ a2, r9 = .inl a2 → (fun (a47 : Int32 × Int32 × Mem) => X p l e R s m args below meth c 4 cy D B 0 0 Q 47 [(0, .ref (B + oHo j)), (1, .int p1), (2, .int a47.1), (3, .int a47.2.1)] [] a47.2.2 Y) a2) → (∀ b2, r9 = .inr b2 → (fun (b47 : Int32 × Mem) => X p l e R s m args below meth c 4 cy D B 0 0 Q 86 [(0, .ref (B + oHo j)), (2, .int b47.1)] [] b47.2 Y) b2) → X p l e R s m args below meth c 4 cy D B 0 0 Q 80 [(0, .ref (B + oHo j)), (1, .int p1), (2, .int x2), (3, .int a47.2.1)] [] σ3 Y := by
          intro x2 σ3 r h hA2 hB3
          unfold jX1_drop_80 at h
          refine x_iinc C (k := 3) [(3, .int (a47.2.1 + (1 : Int32))), (0, .ref (B + oHo j)), (1, .int p1), (2, .int x2)] dX1_drop_80 rfl rfl (by decide) rfl ?_
          refine x_goto C (tgt := 47) dX1_drop_83 (by decide) ?_
          cases h
          refine x_sub [1, 2, 3, 0] rfl ?_
          exact hA2 (x2, a47.2.1 + (1 : Int32), σ3) rfl
        refine x_icmp_eq C (tgt := 80) dX1_drop_62 (by decide) (fun hc7 => ?_) (fun hc7 => ?_)
        · rw [if_pos hc7] at h
          exact hJ6 a47.1 a47.2.2 _ h hA2 hB3
        · rw [if_neg hc7] at h
          refine x_aload_n C dX1_drop_65 rfl 0 rfl ?_
          refine x_get C (C1 := "HostelBeds$Hostel") (T := TX1) (N := 12) (ci := 3) inXg1 _ (c_Ho hj) rfl 5 (by decide) (lw_g_mk tw_201 rfl) rfl dX1_drop_66 ?_
          refine x_iload_n C dX1_drop_69 rfl 2 rfl ?_
          refine x_aload_n C dX1_drop_70 rfl 0 rfl ?_
          refine x_get C (C1 := "HostelBeds$Hostel") (T := TX1) (N := 12) (ci := 3) inXg1 _ (c_Ho hj) rfl 5 (by decide) (lw_g_mk tw_201 rfl) rfl dX1_drop_71 ?_
          refine x_iload_n C dX1_drop_74 rfl 3 rfl ?_
          refine x_iald C _ (c_Que hj) hg5 dX1_drop_75 ?_
          obtain ⟨hg8, h⟩ := gd_some h
          refine x_iast C _ (c_Que hj) hg8 dX1_drop_76 (s_Que hj) ?_
          refine x_iinc C (k := 2) [(2, .int (a47.1 + (1 : Int32))), (0, .ref (B + oHo j)), (1, .int p1), (3, .int a47.2.1)] dX1_drop_77 rfl rfl (by decide) rfl ?_
          refine x_sub [1, 2, 0, 3] rfl ?_
          exact hJ6 (a47.1 + (1 : Int32)) (wI a47.2.2 28 j a47.1.toNatClampNeg (rI a47.2.2 28 j a47.2.1.toNatClampNeg)) _ h hA2 hB3
    · show X p l e R s m args below meth c 4 cy D B 0 0 Q 86 [(0, .ref (B + oHo j)), (2, .int b47.1)] [] b47.2 Y
      refine x_aload_n C dX1_drop_86 rfl 0 rfl ?_
      refine x_iload_n C dX1_drop_87 rfl 1 rfl ?_
      refine x_put C (C1 := "HostelBeds$Hostel") (T := TX1) (N := 12) (ci := 3) inXg1 tyX1 tyX1_ok nmX1 _ (c_Ho hj) rfl 6 (by decide) (lw_g_mk tw_203 rfl) rfl rfl rfl rfl (Nat.le_of_ble_eq_true rfl) dX1_drop_88 (s_Ho_queued hj) ?_
      cases h
      exact hret _ _ dX1_drop_91
  refine x_icmp_ne C (tgt := 33) dX1_drop_10 (by decide) (fun hc11 => ?_) (fun hc11 => ?_)
  · rw [if_pos hc11] at h
    exact hJ10 σ _ h hret
  · rw [if_neg hc11] at h
    refine x_aload_n C dX1_drop_13 rfl 0 rfl ?_
    refine x_aload_n C dX1_drop_14 rfl 0 rfl ?_
    refine x_get C (C1 := "HostelBeds$Hostel") (T := TX1) (N := 12) (ci := 3) inXg1 _ (c_Ho hj) rfl 3 (by decide) (lw_g_mk tw_193 rfl) rfl dX1_drop_15 ?_
    refine x_iload_n C dX1_drop_18 rfl 1 rfl ?_
    refine x_aldq C _ 6 (C1 := "HostelBeds$Booking") (c_Bks hj) rfl hg1 rfl dX1_drop_19 ?_
    refine x_aload_n C dX1_drop_20 rfl 0 rfl ?_
    refine x_get C (C1 := "HostelBeds$Hostel") (T := TX1) (N := 12) (ci := 3) inXg1 _ (c_Ho hj) rfl 3 (by decide) (lw_g_mk tw_193 rfl) rfl dX1_drop_21 ?_
    refine x_iload_n C dX1_drop_24 rfl 1 rfl ?_
    refine x_aldq C _ 6 (C1 := "HostelBeds$Booking") (c_Bks hj) rfl hg1 rfl dX1_drop_25 ?_
    refine x_get C (C1 := "HostelBeds$Booking") (T := TX0) (N := 11) (ci := 2) inXg0 _ (c_Bk hj (inb_lt hg1)) rfl 5 (by decide) (lw_g_mk tw_131 rfl) rfl dX1_drop_26 ?_
    refine x_ineg C dX1_drop_29 ?_
    obtain ⟨q4, hk12, h⟩ := Option.bind_eq_some_iff.mp h
    refine x_callV C (As := [.ref (B + oBk j p1.toNatClampNeg), .int (-(rI σ 44 j p1.toNatClampNeg))]) (rest := []) (lw_g_mk tw_659 rfl) (lw_g_mk tw_660 rfl) (c_Ho hj) (C1 := "HostelBeds$Hostel") (T := TX1) (N := 12) (ci := 3) rfl (okX1_addToCrowd l cy D B ek j j p1.toNatClampNeg (-(rI σ 44 j p1.toNatClampNeg)) σ Y hj hj (inb_lt hg1) _ hk12) rfl rfl (by rw [hR9]; decide) (lw_g_mk tw_661 rfl) (lw_g_mk tw_3 rfl) (by decide) rfl (lw_g_mk tw_658 rfl) rfl (Nat.le_of_ble_eq_true rfl) dX1_drop_30 (by rw [hR9]; decide) ?_
    exact hJ10 q4 _ h hret
def stX1_roomNamed_2 (σ : Mem) (j : Nat) (p1 : Int64) (a2 : Int32) : Option ((Int32) ⊕ ((Unit) ⊕ (Int32))) := (if (rI σ 20 j 0) ≤ a2 then (some (.inr (.inl ()))) else (gd (inb a2 8) (if ¬ (lg_cmp (rJ σ 1 j a2.toNatClampNeg) p1) = 0 then (some (.inl (a2 + (1 : Int32)))) else (some (.inr (.inr a2))))))
def fX1_roomNamed (j : Nat) (p1 : Int64) (σ : Mem) : Option (Int32) := ((loop (stX1_roomNamed_2 σ j p1) 5000 ((0 : Int32))).bind fun b2 => Sum.elim (fun z2 => (some ((-1 : Int32)))) (fun w2 => (some w2)) b2)
set_option maxHeartbeats 4000000 in
set_option maxRecDepth 100000 in
theorem okX1_roomNamed (l : Launch) (cy : Nat → ClassId) (D : va_G) (B : Nat) (ek : EK) (j : Nat) (p1 : Int64) (σ : Mem) (Y : va_W) (hj : j < 12) (res : Int32) (h : fX1_roomNamed j p1 σ = some res) : CT l cy D B ek yX1_roomNamed cX1_roomNamed 4 (some .int) ({ frames := 0, cells := 0, slots := 0, locals := 0 } : Room) [.ref (B + oHo j), .long p1] σ Y (some (.int res)) σ Y := by
  refine met_X (own := "HostelBeds$Hostel") (by decide) rfl (Nat.le_of_ble_eq_true rfl) ?_
  intro p e s m args below meth c C hrT hlk
  have hret : ∀ (pc9 : Nat) (lcs9 : List (Nat × Value)), decode cX1_roomNamed pc9 = .ok (.ireturn, 1) → narrow .int (.int res) = .int res → X p l e ({ frames := 0, cells := 0, slots := 0, locals := 0 } : Room) s m args below meth c 4 cy D B 0 0 (MQ below (QR cy D B (some (.int res)) σ Y) args s 0 0 (aB B)) pc9 lcs9 [.int res] σ Y := fun _ _ hd hn => x_zret C hrT hlk hn hd
  generalize (MQ below (QR cy D B (some (.int res)) σ Y) args s 0 0 (aB B)) = Q at hret ⊢
  obtain ⟨R, hR9⟩ : ∃ R : Room, R = ({ frames := 0, cells := 0, slots := 0, locals := 0 } : Room) := ⟨_, rfl⟩
  rw [← hR9] at hret ⊢
  unfold fX1_roomNamed at h
  show X p l e R s m args below meth c 4 cy D B 0 0 Q 0 [(0, .ref (B + oHo j)), (1, .long p1)] [] σ Y
  refine x_iconst C (v := 0) dX1_roomNamed_0 (by decide) ?_
  refine x_istore_n C [(3, .int (0 : Int32)), (0, .ref (B + oHo j)), (1, .long p1)] dX1_roomNamed_1 rfl (by decide) rfl ?_
  obtain ⟨b2, hk6, h⟩ := Option.bind_eq_some_iff.mp h
  refine x_sub [1, 2, 0] rfl ?_
  refine loop_run (step := stX1_roomNamed_2 σ j p1) (P := fun (a2 : Int32) => X p l e R s m args below meth c 4 cy D B 0 0 Q 2 [(0, .ref (B + oHo j)), (1, .long p1), (3, .int a2)] [] σ Y) (K := fun (b2 : (Unit) ⊕ (Int32)) => Sum.elim (fun z2 => X p l e R s m args below meth c 4 cy D B 0 0 Q 32 [] [] σ Y) (fun w2 => ∀ (pc9 : Nat) (lcs9 : List (Nat × Value)), decode cX1_roomNamed pc9 = .ok (.ireturn, 1) → narrow .int (.int w2) = .int w2 → X p l e R s m args below meth c 4 cy D B 0 0 Q pc9 lcs9 [.int w2] σ Y) b2) ?_ 5000 ((0 : Int32)) b2 hk6 ?_
  · intro a2 r h hA1 hB2
    unfold stX1_roomNamed_2 at h
    refine x_iload_n C dX1_roomNamed_2 rfl 2 rfl ?_
    refine x_aload_n C dX1_roomNamed_3 rfl 0 rfl ?_
    refine x_get C (C1 := "HostelBeds$Hostel") (T := TX1) (N := 12) (ci := 3) inXg1 _ (c_Ho hj) rfl 1 (by decide) (lw_g_mk tw_186 rfl) rfl dX1_roomNamed_4 ?_
    refine x_icmp_ge C (tgt := 32) dX1_roomNamed_7 (by decide) (fun hc3 => ?_) (fun hc3 => ?_)
    · rw [if_pos hc3] at h
      cases h
      refine x_sub [] rfl ?_
      exact hB2 (.inl ()) rfl
    · rw [if_neg hc3] at h
      refine x_aload_n C dX1_roomNamed_10 rfl 0 rfl ?_
      refine x_get C (C1 := "HostelBeds$Hostel") (T := TX1) (N := 12) (ci := 3) inXg1 _ (c_Ho hj) rfl 0 (by decide) (lw_g_mk tw_182 rfl) rfl dX1_roomNamed_11 ?_
      refine x_iload_n C dX1_roomNamed_14 rfl 2 rfl ?_
      obtain ⟨hg4, h⟩ := gd_some h
      refine x_aldq C _ 5 (C1 := "HostelBeds$Room") (c_Rms hj) rfl hg4 rfl dX1_roomNamed_15 ?_
      refine x_get C (C1 := "HostelBeds$Room") (T := TX4) (N := 5) (ci := 6) inXg4 _ (c_Rm hj (inb_lt hg4)) rfl 0 (by decide) (lw_g_mk tw_79 rfl) rfl dX1_roomNamed_16 ?_
      refine x_lload_n C dX1_roomNamed_19 rfl 1 rfl ?_
      refine x_lcmp C dX1_roomNamed_20 ?_
      refine x_if_ne C (tgt := 26) dX1_roomNamed_21 (by decide) (fun hc5 => ?_) (fun hc5 => ?_)
      · rw [if_pos hc5] at h
        refine x_iinc C (k := 2) [(3, .int (a2 + (1 : Int32))), (0, .ref (B + oHo j)), (1, .long p1)] dX1_roomNamed_26 rfl rfl (by decide) rfl ?_
        refine x_goto C (tgt := 2) dX1_roomNamed_29 (by decide) ?_
        cases h
        refine x_sub [1, 2, 0] rfl ?_
        exact hA1 (a2 + (1 : Int32)) rfl
      · rw [if_neg hc5] at h
        refine x_iload_n C dX1_roomNamed_24 rfl 2 rfl ?_
        cases h
        exact hB2 (.inr a2) rfl _ _ dX1_roomNamed_25 rfl
  · rcases b2 with z2 | w2
    · rw [Sum.elim_inl] at h
      show X p l e R s m args below meth c 4 cy D B 0 0 Q 32 [] [] σ Y
      refine x_iconst C (v := -1) dX1_roomNamed_32 (by decide) ?_
      cases h
      exact hret _ _ dX1_roomNamed_33 rfl
    · rw [Sum.elim_inr] at h
      show ∀ (pc9 : Nat) (lcs9 : List (Nat × Value)), decode cX1_roomNamed pc9 = .ok (.ireturn, 1) → narrow .int (.int w2) = .int w2 → X p l e R s m args below meth c 4 cy D B 0 0 Q pc9 lcs9 [.int w2] σ Y
      cases h
      exact hret
def jX1_countState_28 (a4 : Int32 × Int32) (x1 : Int32) : Option ((Int32 × Int32) ⊕ (Int32)) := (some (.inl (x1, a4.2 + (1 : Int32))))
def stX1_countState_4 (σ : Mem) (j : Nat) (p1 : Int32) (a4 : Int32 × Int32) : Option ((Int32 × Int32) ⊕ (Int32)) := (if (rI σ 22 j 0) ≤ a4.2 then (some (.inr a4.1)) else (gd (inb a4.2 17) (if ¬ (rI σ 49 j a4.2.toNatClampNeg) = p1 then (jX1_countState_28 a4 a4.1) else (jX1_countState_28 a4 (a4.1 + (1 : Int32))))))
def fX1_countState (j : Nat) (p1 : Int32) (σ : Mem) : Option (Int32) := ((loop (stX1_countState_4 σ j p1) 5000 ((0 : Int32), (0 : Int32))).bind fun b4 => (some b4))
set_option maxHeartbeats 4000000 in
set_option maxRecDepth 100000 in
theorem okX1_countState (l : Launch) (cy : Nat → ClassId) (D : va_G) (B : Nat) (ek : EK) (j : Nat) (p1 : Int32) (σ : Mem) (Y : va_W) (hj : j < 12) (res : Int32) (h : fX1_countState j p1 σ = some res) : CT l cy D B ek yX1_countState cX1_countState 4 (some .int) ({ frames := 0, cells := 0, slots := 0, locals := 0 } : Room) [.ref (B + oHo j), .int p1] σ Y (some (.int res)) σ Y := by
  refine met_X (own := "HostelBeds$Hostel") (by decide) rfl (Nat.le_of_ble_eq_true rfl) ?_
  intro p e s m args below meth c C hrT hlk
  have hret : ∀ (pc9 : Nat) (lcs9 : List (Nat × Value)), decode cX1_countState pc9 = .ok (.ireturn, 1) → narrow .int (.int res) = .int res → X p l e ({ frames := 0, cells := 0, slots := 0, locals := 0 } : Room) s m args below meth c 4 cy D B 0 0 (MQ below (QR cy D B (some (.int res)) σ Y) args s 0 0 (aB B)) pc9 lcs9 [.int res] σ Y := fun _ _ hd hn => x_zret C hrT hlk hn hd
  generalize (MQ below (QR cy D B (some (.int res)) σ Y) args s 0 0 (aB B)) = Q at hret ⊢
  obtain ⟨R, hR9⟩ : ∃ R : Room, R = ({ frames := 0, cells := 0, slots := 0, locals := 0 } : Room) := ⟨_, rfl⟩
  rw [← hR9] at hret ⊢
  unfold fX1_countState at h
  show X p l e R s m args below meth c 4 cy D B 0 0 Q 0 [(0, .ref (B + oHo j)), (1, .int p1)] [] σ Y
  refine x_iconst C (v := 0) dX1_countState_0 (by decide) ?_
  refine x_istore_n C [(2, .int (0 : Int32)), (0, .ref (B + oHo j)), (1, .int p1)] dX1_countState_1 rfl (by decide) rfl ?_
  refine x_iconst C (v := 0) dX1_countState_2 (by decide) ?_
  refine x_istore_n C [(3, .int (0 : Int32)), (2, .int (0 : Int32)), (0, .ref (B + oHo j)), (1, .int p1)] dX1_countState_3 rfl (by decide) rfl ?_
  obtain ⟨b4, hk7, h⟩ := Option.bind_eq_some_iff.mp h
  refine x_sub [2, 3, 1, 0] rfl ?_
  refine loop_run (step := stX1_countState_4 σ j p1) (P := fun (a4 : Int32 × Int32) => X p l e R s m args below meth c 4 cy D B 0 0 Q 4 [(0, .ref (B + oHo j)), (1, .int p1), (2, .int a4.1), (3, .int a4.2)] [] σ Y) (K := fun (b4 : Int32) => X p l e R s m args below meth c 4 cy D B 0 0 Q 34 [(2, .int b4)] [] σ Y) ?_ 5000 ((0 : Int32), (0 : Int32)) b4 hk7 ?_
  · intro a4 r h hA1 hB2
    unfold stX1_countState_4 at h
    refine x_iload_n C dX1_countState_4 rfl 3 rfl ?_
    refine x_aload_n C dX1_countState_5 rfl 0 rfl ?_
    refine x_get C (C1 := "HostelBeds$Hostel") (T := TX1) (N := 12) (ci := 3) inXg1 _ (c_Ho hj) rfl 4 (by decide) (lw_g_mk tw_197 rfl) rfl dX1_countState_6 ?_
    refine x_icmp_ge C (tgt := 34) dX1_countState_9 (by decide) (fun hc3 => ?_) (fun hc3 => ?_)
    · rw [if_pos hc3] at h
      cases h
      refine x_sub [2] rfl ?_
      exact hB2 a4.1 rfl
    · rw [if_neg hc3] at h
      refine x_aload_n C dX1_countState_12 rfl 0 rfl ?_
      refine x_get C (C1 := "HostelBeds$Hostel") (T := TX1) (N := 12) (ci := 3) inXg1 _ (c_Ho hj) rfl 3 (by decide) (lw_g_mk tw_193 rfl) rfl dX1_countState_13 ?_
      refine x_iload_n C dX1_countState_16 rfl 3 rfl ?_
      obtain ⟨hg4, h⟩ := gd_some h
      refine x_aldq C _ 6 (C1 := "HostelBeds$Booking") (c_Bks hj) rfl hg4 rfl dX1_countState_17 ?_
      refine x_get C (C1 := "HostelBeds$Booking") (T := TX0) (N := 11) (ci := 2) inXg0 _ (c_Bk hj (inb_lt hg4)) rfl 10 (by decide) (lw_g_mk tw_147 rfl) rfl dX1_countState_18 ?_
      refine x_iload_n C dX1_countState_21 rfl 1 rfl ?_
      have hJ5 : ∀ (x1 : Int32) (r9 : (Int32 × Int32) ⊕ (Int32)), jX1_countState_28 a4 x1 = some r9 → (∀ a2, r9 = .inl a2 → (fun (a4 : Int32 × Int32) => X p l e R s m args below meth c 4 cy D B 0 0 Q 4 [(0, .ref (B + oHo j)), (1, .int p1), (2, .int a4.1), (3, .int a4.2)] [] σ Y) a2) → (∀ b2, r9 = .inr b2 → (fun (b4 : Int32) => X p l e R s m args below meth c 4 cy D B 0 0 Q 34 [(2, .int b4)] [] σ Y) b2) → X p l e R s m args below meth c 4 cy D B 0 0 Q 28 [(0, .ref (B + oHo j)), (1, .int p1), (2, .int x1), (3, .int a4.2)] [] σ Y := by
        intro x1 r h hA1 hB2
        unfold jX1_countState_28 at h
        refine x_iinc C (k := 3) [(3, .int (a4.2 + (1 : Int32))), (0, .ref (B + oHo j)), (1, .int p1), (2, .int x1)] dX1_countState_28 rfl rfl (by decide) rfl ?_
        refine x_goto C (tgt := 4) dX1_countState_31 (by decide) ?_
        cases h
        refine x_sub [1, 2, 3, 0] rfl ?_
        exact hA1 (x1, a4.2 + (1 : Int32)) rfl
      refine x_icmp_ne C (tgt := 28) dX1_countState_22 (by decide) (fun hc6 => ?_) (fun hc6 => ?_)
      · rw [if_pos hc6] at h
        exact hJ5 a4.1 _ h hA1 hB2
      · rw [if_neg hc6] at h
        refine x_iinc C (k := 2) [(2, .int (a4.1 + (1 : Int32))), (0, .ref (B + oHo j)), (1, .int p1), (3, .int a4.2)] dX1_countState_25 rfl rfl (by decide) rfl ?_
        refine x_sub [1, 2, 0, 3] rfl ?_
        exact hJ5 (a4.1 + (1 : Int32)) _ h hA1 hB2
  · show X p l e R s m args below meth c 4 cy D B 0 0 Q 34 [(2, .int b4)] [] σ Y
    refine x_iload_n C dX1_countState_34 rfl 0 rfl ?_
    cases h
    exact hret _ _ dX1_countState_35 rfl
