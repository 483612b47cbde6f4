def stX3_clear_2 (j : Nat) (a2 : Int32 × Mem) : Option ((Int32 × Mem) ⊕ (Mem)) := (if (80 : Int32) ≤ a2.1 then (some (.inr a2.2)) else (gd (inb a2.1 80) (some (.inl (a2.1 + (1 : Int32), wI a2.2 50 j a2.1.toNatClampNeg (0 : Int32))))))
def stX3_clear_26 (j : Nat) (a26 : Int32 × Mem) : Option ((Int32 × Mem) ⊕ (Mem)) := (if (17 : Int32) ≤ a26.1 then (some (.inr a26.2)) else (gd (inb a26.1 17) (some (.inl (a26.1 + (1 : Int32), wI (wI (wI a26.2 52 j a26.1.toNatClampNeg (0 : Int32)) 53 j a26.1.toNatClampNeg (0 : Int32)) 54 j a26.1.toNatClampNeg (0 : Int32))))))
def fX3_clear (j : Nat) (σ : Mem) : Option (Mem) := ((loop (stX3_clear_2 j) 5000 ((0 : Int32), σ)).bind fun b2 => ((loop (stX3_clear_26 j) 5000 ((0 : Int32), b2)).bind fun b26 => (some (wI (wI b26 55 j 0 (0 : Int32)) 56 j 0 (0 : Int32)))))
set_option maxHeartbeats 4000000 in
set_option maxRecDepth 100000 in
theorem okX3_clear (l : Launch) (cy : Nat → ClassId) (D : va_G) (B : Nat) (ek : EK) (j : Nat) (σ : Mem) (Y : va_W) (hj : j < 2) (res : Mem) (h : fX3_clear j σ = some res) : CT l cy D B ek yX3_clear cX3_clear 2 none ({ frames := 0, cells := 0, slots := 0, locals := 0 } : Room) [.ref (B + oPl j)] σ Y none res Y := by
  refine met_X (own := "HostelBeds$Plan") (by decide) rfl (Nat.le_of_ble_eq_true rfl) ?_
  intro p e s m args below meth c C hrT hlk
  have hret : ∀ (pc9 : Nat) (lcs9 : List (Nat × Value)), decode cX3_clear pc9 = .ok (.return_, 1) → X p l e ({ frames := 0, cells := 0, slots := 0, locals := 0 } : Room) s m args below meth c 2 cy D B 0 0 (MQ below (QR cy D B none res Y) args s 0 0 (aB B)) pc9 lcs9 [] res Y := fun _ _ hd => x_vret C hrT hlk hd
  generalize (MQ below (QR cy D B none res Y) args s 0 0 (aB B)) = Q at hret ⊢
  obtain ⟨R, hR9⟩ : ∃ R : Room, R = ({ frames := 0, cells := 0, slots := 0, locals := 0 } : Room) := ⟨_, rfl⟩
  rw [← hR9] at hret ⊢
  unfold fX3_clear at h
  show X p l e R s m args below meth c 2 cy D B 0 0 Q 0 [(0, .ref (B + oPl j))] [] σ Y
  refine x_iconst C (v := 0) dX3_clear_0 (by decide) ?_
  refine x_istore_n C [(1, .int (0 : Int32)), (0, .ref (B + oPl j))] dX3_clear_1 rfl (by decide) rfl ?_
  obtain ⟨b2, hk5, h⟩ := Option.bind_eq_some_iff.mp h
  refine x_sub [1, 0] rfl ?_
  refine loop_run (step := stX3_clear_2 j) (P := fun (a2 : Int32 × Mem) => X p l e R s m args below meth c 2 cy D B 0 0 Q 2 [(0, .ref (B + oPl j)), (1, .int a2.1)] [] a2.2 Y) (K := fun (b2 : Mem) => X p l e R s m args below meth c 2 cy D B 0 0 Q 24 [(0, .ref (B + oPl j))] [] b2 Y) ?_ 5000 ((0 : Int32), σ) b2 hk5 ?_
  · intro a2 r h hA1 hB2
    unfold stX3_clear_2 at h
    refine x_iload_n C dX3_clear_2 rfl 1 rfl ?_
    refine x_aload_n C dX3_clear_3 rfl 0 rfl ?_
    refine x_get C (C1 := "HostelBeds$Plan") (T := TX3) (N := 8) (ci := 5) inXg3 _ (c_Pl hj) rfl 0 (by decide) (lw_g_mk tw_253 rfl) rfl dX3_clear_4 ?_
    refine x_alen C _ 0 (c_Busy hj) rfl (v := 80) rfl dX3_clear_7 ?_
    refine x_icmp_ge C (tgt := 24) dX3_clear_8 (by decide) (fun hc3 => ?_) (fun hc3 => ?_)
    · rw [if_pos hc3] at h
      cases h
      refine x_sub [0] rfl ?_
      exact hB2 a2.2 rfl
    · rw [if_neg hc3] at h
      refine x_aload_n C dX3_clear_11 rfl 0 rfl ?_
      refine x_get C (C1 := "HostelBeds$Plan") (T := TX3) (N := 8) (ci := 5) inXg3 _ (c_Pl hj) rfl 0 (by decide) (lw_g_mk tw_253 rfl) rfl dX3_clear_12 ?_
      refine x_iload_n C dX3_clear_15 rfl 1 rfl ?_
      refine x_iconst C (v := 0) dX3_clear_16 (by decide) ?_
      obtain ⟨hg4, h⟩ := gd_some h
      refine x_iast C _ (c_Busy hj) hg4 dX3_clear_17 (s_Busy hj) ?_
      refine x_iinc C (k := 1) [(1, .int (a2.1 + (1 : Int32))), (0, .ref (B + oPl j))] dX3_clear_18 rfl rfl (by decide) rfl ?_
      refine x_goto C (tgt := 2) dX3_clear_21 (by decide) ?_
      cases h
      refine x_sub [1, 0] rfl ?_
      exact hA1 (a2.1 + (1 : Int32), wI a2.2 50 j a2.1.toNatClampNeg (0 : Int32)) rfl
  · show X p l e R s m args below meth c 2 cy D B 0 0 Q 24 [(0, .ref (B + oPl j))] [] b2 Y
    refine x_iconst C (v := 0) dX3_clear_24 (by decide) ?_
    refine x_istore_n C [(1, .int (0 : Int32)), (0, .ref (B + oPl j))] dX3_clear_25 rfl (by decide) rfl ?_
    obtain ⟨b26, hk10, h⟩ := Option.bind_eq_some_iff.mp h
    refine x_sub [1, 0] rfl ?_
    refine loop_run (step := stX3_clear_26 j) (P := fun (a26 : Int32 × Mem) => X p l e R s m args below meth c 2 cy D B 0 0 Q 26 [(0, .ref (B + oPl j)), (1, .int a26.1)] [] a26.2 Y) (K := fun (b26 : Mem) => X p l e R s m args below meth c 2 cy D B 0 0 Q 62 [(0, .ref (B + oPl j))] [] b26 Y) ?_ 5000 ((0 : Int32), b2) b26 hk10 ?_
    · intro a26 r h hA6 hB7
      unfold stX3_clear_26 at h
      refine x_iload_n C dX3_clear_26 rfl 1 rfl ?_
      refine x_aload_n C dX3_clear_27 rfl 0 rfl ?_
      refine x_get C (C1 := "HostelBeds$Plan") (T := TX3) (N := 8) (ci := 5) inXg3 _ (c_Pl hj) rfl 2 (by decide) (lw_g_mk tw_256 rfl) rfl dX3_clear_28 ?_
      refine x_alen C _ 0 (c_Out hj) rfl (v := 17) rfl dX3_clear_31 ?_
      refine x_icmp_ge C (tgt := 62) dX3_clear_32 (by decide) (fun hc8 => ?_) (fun hc8 => ?_)
      · rw [if_pos hc8] at h
        cases h
        refine x_sub [0] rfl ?_
        exact hB7 a26.2 rfl
      · rw [if_neg hc8] at h
        refine x_aload_n C dX3_clear_35 rfl 0 rfl ?_
        refine x_get C (C1 := "HostelBeds$Plan") (T := TX3) (N := 8) (ci := 5) inXg3 _ (c_Pl hj) rfl 2 (by decide) (lw_g_mk tw_256 rfl) rfl dX3_clear_36 ?_
        refine x_iload_n C dX3_clear_39 rfl 1 rfl ?_
        refine x_iconst C (v := 0) dX3_clear_40 (by decide) ?_
        obtain ⟨hg9, h⟩ := gd_some h
        refine x_iast C _ (c_Out hj) hg9 dX3_clear_41 (s_Out hj) ?_
        refine x_aload_n C dX3_clear_42 rfl 0 rfl ?_
        refine x_get C (C1 := "HostelBeds$Plan") (T := TX3) (N := 8) (ci := 5) inXg3 _ (c_Pl hj) rfl 3 (by decide) (lw_g_mk tw_258 rfl) rfl dX3_clear_43 ?_
        refine x_iload_n C dX3_clear_46 rfl 1 rfl ?_
        refine x_iconst C (v := 0) dX3_clear_47 (by decide) ?_
        refine x_iast C _ (c_Rb hj) hg9 dX3_clear_48 (s_Rb hj) ?_
        refine x_aload_n C dX3_clear_49 rfl 0 rfl ?_
        refine x_get C (C1 := "HostelBeds$Plan") (T := TX3) (N := 8) (ci := 5) inXg3 _ (c_Pl hj) rfl 4 (by decide) (lw_g_mk tw_260 rfl) rfl dX3_clear_50 ?_
        refine x_iload_n C dX3_clear_53 rfl 1 rfl ?_
        refine x_iconst C (v := 0) dX3_clear_54 (by decide) ?_
        refine x_iast C _ (c_Paid hj) hg9 dX3_clear_55 (s_Paid hj) ?_
        refine x_iinc C (k := 1) [(1, .int (a26.1 + (1 : Int32))), (0, .ref (B + oPl j))] dX3_clear_56 rfl rfl (by decide) rfl ?_
        refine x_goto C (tgt := 26) dX3_clear_59 (by decide) ?_
        cases h
        refine x_sub [1, 0] rfl ?_
        exact hA6 (a26.1 + (1 : Int32), wI (wI (wI a26.2 52 j a26.1.toNatClampNeg (0 : Int32)) 53 j a26.1.toNatClampNeg (0 : Int32)) 54 j a26.1.toNatClampNeg (0 : Int32)) rfl
    · show X p l e R s m args below meth c 2 cy D B 0 0 Q 62 [(0, .ref (B + oPl j))] [] b26 Y
      refine x_aload_n C dX3_clear_62 rfl 0 rfl ?_
      refine x_iconst C (v := 0) dX3_clear_63 (by decide) ?_
      refine x_put C (C1 := "HostelBeds$Plan") (T := TX3) (N := 8) (ci := 5) inXg3 tyX3 tyX3_ok nmX3 _ (c_Pl hj) rfl 5 (by decide) (lw_g_mk tw_262 rfl) rfl rfl rfl rfl (Nat.le_of_ble_eq_true rfl) dX3_clear_64 (s_Pl_earned hj) ?_
      refine x_aload_n C dX3_clear_67 rfl 0 rfl ?_
      refine x_iconst C (v := 0) dX3_clear_68 (by decide) ?_
      refine x_put C (C1 := "HostelBeds$Plan") (T := TX3) (N := 8) (ci := 5) inXg3 tyX3 tyX3_ok nmX3 _ (c_Pl hj) rfl 6 (by decide) (lw_g_mk tw_264 rfl) rfl rfl rfl rfl (Nat.le_of_ble_eq_true rfl) dX3_clear_69 (s_Pl_spent hj) ?_
      cases h
      exact hret _ _ dX3_clear_72
def jX3_countFree_88 (a37 : Int32 × Mem) (σ2 : Mem) : Option ((Int32 × Mem) ⊕ (Mem)) := (some (.inl (a37.1 + (1 : Int32), σ2)))
def stX3_countFree_37 (j1 : Nat) (a8 : Int32 × Mem) (j2 : Nat) (r2 : Nat) (j : Nat) (q1 : Int32) (a37 : Int32 × Mem) : Option ((Int32 × Mem) ⊕ (Mem)) := (if (rI a37.2 31 j1 a8.1.toNatClampNeg) ≤ a37.1 then (some (.inr a37.2)) else (if (rI a37.2 45 j2 r2) < (rI a37.2 32 j1 a8.1.toNatClampNeg) then (jX3_countFree_88 a37 a37.2) else (gd (inb ((a8.1 * (10 : Int32)) + a37.1) 80) (if ¬ ((rI a37.2 50 j ((a8.1 * (10 : Int32)) + a37.1).toNatClampNeg) &&& q1) = 0 then (jX3_countFree_88 a37 a37.2) else (jX3_countFree_88 a37 (wI a37.2 57 j a8.1.toNatClampNeg ((rI a37.2 57 j a8.1.toNatClampNeg) + (1 : Int32))))))))
def stX3_countFree_8 (j1 : Nat) (j2 : Nat) (r2 : Nat) (j : Nat) (q1 : Int32) (a8 : Int32 × Mem) : Option ((Int32 × Mem) ⊕ (Mem)) := (if (rI a8.2 20 j1 0) ≤ a8.1 then (some (.inr a8.2)) else (gd (inb a8.1 8) ((loop (stX3_countFree_37 j1 a8 j2 r2 j q1) 5000 ((0 : Int32), wI a8.2 57 j a8.1.toNatClampNeg (0 : Int32))).bind fun b37 => (some (.inl (a8.1 + (1 : Int32), b37))))))
def fX3_countFree (j : Nat) (j1 : Nat) (j2 : Nat) (r2 : Nat) (σ : Mem) : Option (Mem) := ((fX0_nightBits j2 r2 σ).bind fun q1 => ((loop (stX3_countFree_8 j1 j2 r2 j q1) 5000 ((0 : Int32), σ)).bind fun b8 => (some b8)))
set_option maxHeartbeats 4000000 in
set_option maxRecDepth 100000 in
theorem okX3_countFree (l : Launch) (cy : Nat → ClassId) (D : va_G) (B : Nat) (ek : EK) (j : Nat) (j1 : Nat) (j2 : Nat) (r2 : Nat) (σ : Mem) (Y : va_W) (hj : j < 2) (hj1 : j1 < 12) (hj2 : j2 < 12) (hr2 : r2 < 17) (res : Mem) (h : fX3_countFree j j1 j2 r2 σ = some res) : CT l cy D B ek yX3_countFree cX3_countFree 7 none ({ frames := 1, cells := 0, slots := 0, locals := 20 } : Room) [.ref (B + oPl j), .ref (B + oHo j1), .ref (B + oBk j2 r2)] σ Y none res Y := by
  refine met_X (own := "HostelBeds$Plan") (by decide) rfl (Nat.le_of_ble_eq_true rfl) ?_
  intro p e s m args below meth c C hrT hlk
  have hret : ∀ (pc9 : Nat) (lcs9 : List (Nat × Value)), decode cX3_countFree pc9 = .ok (.return_, 1) → X p l e ({ frames := 1, cells := 0, slots := 0, locals := 20 } : Room) s m args below meth c 7 cy D B 0 0 (MQ below (QR cy D B none res Y) args s 0 0 (aB B)) pc9 lcs9 [] res Y := fun _ _ hd => x_vret C hrT hlk hd
  generalize (MQ below (QR cy D B none res Y) args s 0 0 (aB B)) = Q at hret ⊢
  obtain ⟨R, hR9⟩ : ∃ R : Room, R = ({ frames := 1, cells := 0, slots := 0, locals := 20 } : Room) := ⟨_, rfl⟩
  rw [← hR9] at hret ⊢
  unfold fX3_countFree at h
  show X p l e R s m args below meth c 7 cy D B 0 0 Q 0 [(0, .ref (B + oPl j)), (1, .ref (B + oHo j1)), (2, .ref (B + oBk j2 r2))] [] σ Y
  refine x_aload_n C dX3_countFree_0 rfl 2 rfl ?_
  obtain ⟨q1, hk1, h⟩ := Option.bind_eq_some_iff.mp h
  refine x_callV C (As := []) (rest := []) (lw_g_mk tw_720 rfl) (lw_g_mk tw_721 rfl) (c_Bk hj2 hr2) (C1 := "HostelBeds$Booking") (T := TX0) (N := 11) (ci := 2) rfl (okX0_nightBits l cy D B ek j2 r2 σ Y hj2 hr2 _ hk1) rfl rfl (by rw [hR9]; decide) (lw_g_mk tw_722 rfl) (lw_g_mk tw_5 rfl) (by decide) rfl (lw_g_mk tw_719 rfl) rfl (Nat.le_of_ble_eq_true rfl) dX3_countFree_1 (by rw [hR9]; decide) ?_
  refine x_istore_n C [(3, .int q1), (0, .ref (B + oPl j)), (1, .ref (B + oHo j1)), (2, .ref (B + oBk j2 r2))] dX3_countFree_4 rfl (by decide) rfl ?_
  refine x_iconst C (v := 0) dX3_countFree_5 (by decide) ?_
  refine x_istore C [(4, .int (0 : Int32)), (3, .int q1), (0, .ref (B + oPl j)), (1, .ref (B + oHo j1)), (2, .ref (B + oBk j2 r2))] dX3_countFree_6 (by decide) rfl ?_
  obtain ⟨b8, hk14, h⟩ := Option.bind_eq_some_iff.mp h
  refine x_sub [2, 3, 4, 1, 0] rfl ?_
  refine loop_run (step := stX3_countFree_8 j1 j2 r2 j q1) (P := fun (a8 : Int32 × Mem) => X p l e R s m args below meth c 7 cy D B 0 0 Q 8 [(0, .ref (B + oPl j)), (1, .ref (B + oHo j1)), (2, .ref (B + oBk j2 r2)), (3, .int q1), (4, .int a8.1)] [] a8.2 Y) (K := fun (b8 : Mem) => X p l e R s m args below meth c 7 cy D B 0 0 Q 100 [] [] b8 Y) ?_ 5000 ((0 : Int32), σ) b8 hk14 ?_
  · intro a8 r h hA2 hB3
    unfold stX3_countFree_8 at h
    refine x_iload C dX3_countFree_8 4 rfl ?_
    refine x_aload_n C dX3_countFree_10 rfl 1 rfl ?_
    refine x_get C (C1 := "HostelBeds$Hostel") (T := TX1) (N := 12) (ci := 3) inXg1 _ (c_Ho hj1) rfl 1 (by decide) (lw_g_mk tw_188 rfl) rfl dX3_countFree_11 ?_
    refine x_icmp_ge C (tgt := 100) dX3_countFree_14 (by decide) (fun hc4 => ?_) (fun hc4 => ?_)
    · rw [if_pos hc4] at h
      cases h
      refine x_sub [] rfl ?_
      exact hB3 a8.2 rfl
    · rw [if_neg hc4] at h
      refine x_aload_n C dX3_countFree_17 rfl 1 rfl ?_
      refine x_get C (C1 := "HostelBeds$Hostel") (T := TX1) (N := 12) (ci := 3) inXg1 _ (c_Ho hj1) rfl 0 (by decide) (lw_g_mk tw_184 rfl) rfl dX3_countFree_18 ?_
      refine x_iload C dX3_countFree_21 4 rfl ?_
      obtain ⟨hg5, h⟩ := gd_some h
      refine x_aldq C _ 5 (C1 := "HostelBeds$Room") (c_Rms hj1) rfl hg5 rfl dX3_countFree_23 ?_
      refine x_astore C [(5, .ref (B + oRm j1 a8.1.toNatClampNeg)), (0, .ref (B + oPl j)), (1, .ref (B + oHo j1)), (2, .ref (B + oBk j2 r2)), (3, .int q1), (4, .int a8.1)] dX3_countFree_24 (by decide) rfl ?_
      refine x_aload_n C dX3_countFree_26 rfl 1 rfl ?_
      refine x_get C (C1 := "HostelBeds$Plan") (T := TX3) (N := 8) (ci := 5) inXg3 _ (c_Pl hj) rfl 7 (by decide) (lw_g_mk tw_266 rfl) rfl dX3_countFree_27 ?_
      refine x_iload C dX3_countFree_30 5 rfl ?_
      refine x_iconst C (v := 0) dX3_countFree_32 (by decide) ?_
      refine x_iast C _ (c_Free hj) hg5 dX3_countFree_33 (s_Free hj) ?_
      refine x_iconst C (v := 0) dX3_countFree_34 (by decide) ?_
      refine x_istore C [(6, .int (0 : Int32)), (5, .ref (B + oRm j1 a8.1.toNatClampNeg)), (0, .ref (B + oPl j)), (1, .ref (B + oHo j1)), (2, .ref (B + oBk j2 r2)), (3, .int q1), (4, .int a8.1)] dX3_countFree_35 (by decide) rfl ?_
      obtain ⟨b37, hk13, h⟩ := Option.bind_eq_some_iff.mp h
      refine x_sub [2, 3, 4, 5, 6, 1, 0] rfl ?_
      refine loop_run (step := stX3_countFree_37 j1 a8 j2 r2 j q1) (P := fun (a37 : Int32 × Mem) => X p l e R s m args below meth c 7 cy D B 0 0 Q 37 [(0, .ref (B + oPl j)), (1, .ref (B + oHo j1)), (2, .ref (B + oBk j2 r2)), (3, .int q1), (4, .int a8.1), (5, .ref (B + oRm j1 a8.1.toNatClampNeg)), (6, .int a37.1)] [] a37.2 Y) (K := fun (b37 : Mem) => X p l e R s m args below meth c 7 cy D B 0 0 Q 94 [(0, .ref (B + oPl j)), (1, .ref (B + oHo j1)), (2, .ref (B + oBk j2 r2)), (3, .int q1), (4, .int a8.1)] [] b37 Y) ?_ 5000 ((0 : Int32), wI a8.2 57 j a8.1.toNatClampNeg (0 : Int32)) b37 hk13 ?_
      · intro a37 r h hA6 hB7
        unfold stX3_countFree_37 at h
        refine x_iload C dX3_countFree_37 6 rfl ?_
        refine x_aload C dX3_countFree_39 5 rfl ?_
        refine x_get C (C1 := "HostelBeds$Room") (T := TX4) (N := 5) (ci := 6) inXg4 _ (c_Rm hj1 (inb_lt hg5)) rfl 2 (by decide) (lw_g_mk tw_86 rfl) rfl dX3_countFree_41 ?_
        refine x_icmp_ge C (tgt := 94) dX3_countFree_44 (by decide) (fun hc8 => ?_) (fun hc8 => ?_)
        · rw [if_pos hc8] at h
          cases h
          refine x_sub [0, 1, 2, 3, 4] rfl ?_
          exact hB7 a37.2 rfl
        · rw [if_neg hc8] at h
          refine x_aload_n C dX3_countFree_47 rfl 2 rfl ?_
          refine x_get C (C1 := "HostelBeds$Booking") (T := TX0) (N := 11) (ci := 2) inXg0 _ (c_Bk hj2 hr2) rfl 6 (by decide) (lw_g_mk tw_136 rfl) rfl dX3_countFree_48 ?_
          refine x_aload C dX3_countFree_51 5 rfl ?_
          refine x_get C (C1 := "HostelBeds$Room") (T := TX4) (N := 5) (ci := 6) inXg4 _ (c_Rm hj1 (inb_lt hg5)) rfl 3 (by decide) (lw_g_mk tw_89 rfl) rfl dX3_countFree_53 ?_
          have hJ9 : ∀ (σ2 : Mem) (r9 : (Int32 × Mem) ⊕ (Mem)), jX3_countFree_88 a37 σ2 = some r9 → (∀ a2, r9 = .inl a2 → (fun (a37 : Int32 × Mem) => X p l e R s m args below meth c 7 cy D B 0 0 Q 37 [(0, .ref (B + oPl j)), (1, .ref (B + oHo j1)), (2, .ref (B + oBk j2 r2)), (3, .int q1), (4, .int a8.1), (5, .ref (B + oRm j1 a8.1.toNatClampNeg)), (6, .int a37.1)] [] a37.2 Y) a2) → (∀ b2, r9 = .inr b2 → (fun (b37 : Mem) => X p l e R s m args below meth c 7 cy D B 0 0 Q 94 [(0, .ref (B + oPl j)), (1, .ref (B + oHo j1)), (2, .ref (B + oBk j2 r2)), (3, .int q1), (4, .int a8.1)] [] b37 Y) b2) → X p l e R s m args below meth c 7 cy D B 0 0 Q 88 [(0, .ref (B + oPl j)), (1, .ref (B + oHo j1)), (2, .ref (B + oBk j2 r2)), (3, .int q1), (4, .int a8.1), (5, .ref (B + oRm j1 a8.1.toNatClampNeg)), (6, .int a37.1)] [] σ2 Y := by
            intro σ2 r h hA6 hB7
            unfold jX3_countFree_88 at h
            refine x_iinc C (k := 6) [(6, .int (a37.1 + (1 : Int32))), (0, .ref (B + oPl j)), (1, .ref (B + oHo j1)), (2, .ref (B + oBk j2 r2)), (3, .int q1), (4, .int a8.1), (5, .ref (B + oRm j1 a8.1.toNatClampNeg))] dX3_countFree_88 rfl rfl (by decide) rfl ?_
            refine x_goto C (tgt := 37) dX3_countFree_91 (by decide) ?_
            cases h
            refine x_sub [1, 2, 3, 4, 5, 6, 0] rfl ?_
            exact hA6 (a37.1 + (1 : Int32), σ2) rfl
          refine x_icmp_lt C (tgt := 88) dX3_countFree_56 (by decide) (fun hc10 => ?_) (fun hc10 => ?_)
          · rw [if_pos hc10] at h
            exact hJ9 a37.2 _ h hA6 hB7
          · rw [if_neg hc10] at h
            refine x_aload_n C dX3_countFree_59 rfl 0 rfl ?_
            refine x_get C (C1 := "HostelBeds$Plan") (T := TX3) (N := 8) (ci := 5) inXg3 _ (c_Pl hj) rfl 0 (by decide) (lw_g_mk tw_253 rfl) rfl dX3_countFree_60 ?_
            refine x_iload C dX3_countFree_63 4 rfl ?_
            refine x_bipush C (v := 10) dX3_countFree_65 (by decide) ?_
            refine x_imul C dX3_countFree_67 ?_
            refine x_iload C dX3_countFree_68 6 rfl ?_
            refine x_iadd C dX3_countFree_70 ?_
            obtain ⟨hg11, h⟩ := gd_some h
            refine x_iald C _ (c_Busy hj) hg11 dX3_countFree_71 ?_
            refine x_iload_n C dX3_countFree_72 rfl 3 rfl ?_
            refine x_iand C dX3_countFree_73 ?_
            refine x_if_ne C (tgt := 88) dX3_countFree_74 (by decide) (fun hc12 => ?_) (fun hc12 => ?_)
            · rw [if_pos hc12] at h
              exact hJ9 a37.2 _ h hA6 hB7
            · rw [if_neg hc12] at h
              refine x_aload_n C dX3_countFree_77 rfl 0 rfl ?_
              refine x_get C (C1 := "HostelBeds$Plan") (T := TX3) (N := 8) (ci := 5) inXg3 _ (c_Pl hj) rfl 7 (by decide) (lw_g_mk tw_266 rfl) rfl dX3_countFree_78 ?_
              refine x_iload C dX3_countFree_81 4 rfl ?_
              refine x_dup2 C dX3_countFree_83 rfl rfl ?_
              refine x_iald C _ (c_Free hj) hg5 dX3_countFree_84 ?_
              refine x_iconst C (v := 1) dX3_countFree_85 (by decide) ?_
              refine x_iadd C dX3_countFree_86 ?_
              refine x_iast C _ (c_Free hj) hg5 dX3_countFree_87 (s_Free hj) ?_
              exact hJ9 (wI a37.2 57 j a8.1.toNatClampNeg ((rI a37.2 57 j a8.1.toNatClampNeg) + (1 : Int32))) _ h hA6 hB7
      · show X p l e R s m args below meth c 7 cy D B 0 0 Q 94 [(0, .ref (B + oPl j)), (1, .ref (B + oHo j1)), (2, .ref (B + oBk j2 r2)), (3, .int q1), (4, .int a8.1)] [] b37 Y
        refine x_iinc C (k := 4) [(4, .int (a8.1 + (1 : Int32))), (0, .ref (B + oPl j)), (1, .ref (B + oHo j1)), (2, .ref (B + oBk j2 r2)), (3, .int q1)] dX3_countFree_94 rfl rfl (by decide) rfl ?_
        refine x_goto C (tgt := 8) dX3_countFree_97 (by decide) ?_
        cases h
        refine x_sub [1, 2, 3, 4, 0] rfl ?_
        exact hA2 (a8.1 + (1 : Int32), b37) rfl
  · show X p l e R s m args below meth c 7 cy D B 0 0 Q 100 [] [] b8 Y
    cases h
    exact hret _ _ dX3_countFree_100
def jX3_holds_99 (a12 : Int32 × Int32 × Int32 × Int32) (x1 : Int32) (x2 : Int32) (x3 : Int32) : Option ((Int32 × Int32 × Int32 × Int32) ⊕ (Int32 × Int32 × Int32)) := (some (.inl (x1, x2, x3, a12.2.2.2 + (1 : Int32))))
def stX3_holds_12 (σ : Mem) (j1 : Nat) (p3 : Int32) (j : Nat) (a12 : Int32 × Int32 × Int32 × Int32) : Option ((Int32 × Int32 × Int32 × Int32) ⊕ (Int32 × Int32 × Int32)) := (if (rI σ 20 j1 0) ≤ a12.2.2.2 then (some (.inr (a12.1, a12.2.1, a12.2.2.1))) else (gd (inb a12.2.2.2 8) (if (rI σ 30 j1 a12.2.2.2.toNatClampNeg) = (1 : Int32) then (jX3_holds_99 a12 (a12.1 + (((p3 >>> (a12.2.2.2 &&& 31)) &&& (1 : Int32)) * (rI σ 57 j a12.2.2.2.toNatClampNeg))) a12.2.1 a12.2.2.1) else (if (rI σ 30 j1 a12.2.2.2.toNatClampNeg) = (2 : Int32) then (jX3_holds_99 a12 a12.1 (a12.2.1 + (((p3 >>> (a12.2.2.2 &&& 31)) &&& (1 : Int32)) * (rI σ 57 j a12.2.2.2.toNatClampNeg))) a12.2.2.1) else (jX3_holds_99 a12 a12.1 a12.2.1 (a12.2.2.1 + (((p3 >>> (a12.2.2.2 &&& 31)) &&& (1 : Int32)) * (rI σ 57 j a12.2.2.2.toNatClampNeg))))))))
def fX3_holds (j : Nat) (j1 : Nat) (j2 : Nat) (r2 : Nat) (p3 : Int32) (σ : Mem) : Option (Int32) := ((loop (stX3_holds_12 σ j1 p3 j) 5000 ((0 : Int32), (0 : Int32), (0 : Int32), (0 : Int32))).bind fun b12 => (if b12.2.2 < ((if (0 : Int32) < ((rI σ 42 j2 r2) - b12.1) then ((rI σ 42 j2 r2) - b12.1) else (0 : Int32)) + (if (0 : Int32) < ((rI σ 43 j2 r2) - b12.2.1) then ((rI σ 43 j2 r2) - b12.2.1) else (0 : Int32))) then (some ((0 : Int32))) else (some ((1 : Int32)))))
set_option maxHeartbeats 4000000 in
set_option maxRecDepth 100000 in
theorem okX3_holds (l : Launch) (cy : Nat → ClassId) (D : va_G) (B : Nat) (ek : EK) (j : Nat) (j1 : Nat) (j2 : Nat) (r2 : Nat) (p3 : Int32) (σ : Mem) (Y : va_W) (hj : j < 2) (hj1 : j1 < 12) (hj2 : j2 < 12) (hr2 : r2 < 17) (res : Int32) (h : fX3_holds j j1 j2 r2 p3 σ = some res) : CT l cy D B ek yX3_holds cX3_holds 9 (some .boolean) ({ frames := 1, cells := 0, slots := 0, locals := 21 } : Room) [.ref (B + oPl j), .ref (B + oHo j1), .ref (B + oBk j2 r2), .int p3] σ Y (some (.int res)) σ Y := by
  refine met_X (own := "HostelBeds$Plan") (by decide) rfl (Nat.le_of_ble_eq_true rfl) ?_
  intro p e s m args below meth c C hrT hlk
  have hret : ∀ (pc9 : Nat) (lcs9 : List (Nat × Value)), decode cX3_holds pc9 = .ok (.ireturn, 1) → narrow .boolean (.int res) = .int res → X p l e ({ frames := 1, cells := 0, slots := 0, locals := 21 } : Room) s m args below meth c 9 cy D B 0 0 (MQ below (QR cy D B (some (.int res)) σ Y) args s 0 0 (aB B)) pc9 lcs9 [.int res] σ Y := fun _ _ hd hn => x_zret C hrT hlk hn hd
  generalize (MQ below (QR cy D B (some (.int res)) σ Y) args s 0 0 (aB B)) = Q at hret ⊢
  obtain ⟨R, hR9⟩ : ∃ R : Room, R = ({ frames := 1, cells := 0, slots := 0, locals := 21 } : Room) := ⟨_, rfl⟩
  rw [← hR9] at hret ⊢
  unfold fX3_holds at h
  show X p l e R s m args below meth c 9 cy D B 0 0 Q 0 [(0, .ref (B + oPl j)), (1, .ref (B + oHo j1)), (2, .ref (B + oBk j2 r2)), (3, .int p3)] [] σ Y
  refine x_iconst C (v := 0) dX3_holds_0 (by decide) ?_
  refine x_istore C [(4, .int (0 : Int32)), (0, .ref (B + oPl j)), (1, .ref (B + oHo j1)), (2, .ref (B + oBk j2 r2)), (3, .int p3)] dX3_holds_1 (by decide) rfl ?_
  refine x_iconst C (v := 0) dX3_holds_3 (by decide) ?_
  refine x_istore C [(5, .int (0 : Int32)), (4, .int (0 : Int32)), (0, .ref (B + oPl j)), (1, .ref (B + oHo j1)), (2, .ref (B + oBk j2 r2)), (3, .int p3)] dX3_holds_4 (by decide) rfl ?_
  refine x_iconst C (v := 0) dX3_holds_6 (by decide) ?_
  refine x_istore C [(6, .int (0 : Int32)), (5, .int (0 : Int32)), (4, .int (0 : Int32)), (0, .ref (B + oPl j)), (1, .ref (B + oHo j1)), (2, .ref (B + oBk j2 r2)), (3, .int p3)] dX3_holds_7 (by decide) rfl ?_
  refine x_iconst C (v := 0) dX3_holds_9 (by decide) ?_
  refine x_istore C [(7, .int (0 : Int32)), (6, .int (0 : Int32)), (5, .int (0 : Int32)), (4, .int (0 : Int32)), (0, .ref (B + oPl j)), (1, .ref (B + oHo j1)), (2, .ref (B + oBk j2 r2)), (3, .int p3)] dX3_holds_10 (by decide) rfl ?_
  obtain ⟨b12, hk8, h⟩ := Option.bind_eq_some_iff.mp h
  refine x_sub [4, 5, 6, 7, 3, 2, 1, 0] rfl ?_
  refine loop_run (step := stX3_holds_12 σ j1 p3 j) (P := fun (a12 : Int32 × Int32 × Int32 × Int32) => X p l e R s m args below meth c 9 cy D B 0 0 Q 12 [(0, .ref (B + oPl j)), (1, .ref (B + oHo j1)), (2, .ref (B + oBk j2 r2)), (3, .int p3), (4, .int a12.1), (5, .int a12.2.1), (6, .int a12.2.2.1), (7, .int a12.2.2.2)] [] σ Y) (K := fun (b12 : Int32 × Int32 × Int32) => X p l e R s m args below meth c 9 cy D B 0 0 Q 105 [(2, .ref (B + oBk j2 r2)), (4, .int b12.1), (5, .int b12.2.1), (6, .int b12.2.2)] [] σ Y) ?_ 5000 ((0 : Int32), (0 : Int32), (0 : Int32), (0 : Int32)) b12 hk8 ?_
  · intro a12 r h hA1 hB2
    unfold stX3_holds_12 at h
    refine x_iload C dX3_holds_12 7 rfl ?_
    refine x_aload_n C dX3_holds_14 rfl 1 rfl ?_
    refine x_get C (C1 := "HostelBeds$Hostel") (T := TX1) (N := 12) (ci := 3) inXg1 _ (c_Ho hj1) rfl 1 (by decide) (lw_g_mk tw_188 rfl) rfl dX3_holds_15 ?_
    refine x_icmp_ge C (tgt := 105) dX3_holds_18 (by decide) (fun hc3 => ?_) (fun hc3 => ?_)
    · rw [if_pos hc3] at h
      cases h
      refine x_sub [2, 4, 5, 6] rfl ?_
      exact hB2 (a12.1, a12.2.1, a12.2.2.1) rfl
    · rw [if_neg hc3] at h
      refine x_iload_n C dX3_holds_21 rfl 3 rfl ?_
      refine x_iload C dX3_holds_22 7 rfl ?_
      refine x_ishr C dX3_holds_24 ?_
      refine x_iconst C (v := 1) dX3_holds_25 (by decide) ?_
      refine x_iand C dX3_holds_26 ?_
      refine x_aload_n C dX3_holds_27 rfl 0 rfl ?_
      refine x_get C (C1 := "HostelBeds$Plan") (T := TX3) (N := 8) (ci := 5) inXg3 _ (c_Pl hj) rfl 7 (by decide) (lw_g_mk tw_266 rfl) rfl dX3_holds_28 ?_
      refine x_iload C dX3_holds_31 7 rfl ?_
      obtain ⟨hg4, h⟩ := gd_some h
      refine x_iald C _ (c_Free hj) hg4 dX3_holds_33 ?_
      refine x_imul C dX3_holds_34 ?_
      refine x_istore C [(8, .int (((p3 >>> (a12.2.2.2 &&& 31)) &&& (1 : Int32)) * (rI σ 57 j a12.2.2.2.toNatClampNeg))), (0, .ref (B + oPl j)), (1, .ref (B + oHo j1)), (2, .ref (B + oBk j2 r2)), (3, .int p3), (4, .int a12.1), (5, .int a12.2.1), (6, .int a12.2.2.1), (7, .int a12.2.2.2)] dX3_holds_35 (by decide) rfl ?_
      refine x_aload_n C dX3_holds_37 rfl 2 rfl ?_
      refine x_get C (C1 := "HostelBeds$Hostel") (T := TX1) (N := 12) (ci := 3) inXg1 _ (c_Ho hj1) rfl 0 (by decide) (lw_g_mk tw_184 rfl) rfl dX3_holds_38 ?_
      refine x_iload C dX3_holds_41 8 rfl ?_
      refine x_aldq C _ 5 (C1 := "HostelBeds$Room") (c_Rms hj1) rfl hg4 rfl dX3_holds_43 ?_
      refine x_get C (C1 := "HostelBeds$Room") (T := TX4) (N := 5) (ci := 6) inXg4 _ (c_Rm hj1 (inb_lt hg4)) rfl 1 (by decide) (lw_g_mk tw_84 rfl) rfl dX3_holds_44 ?_
      have hJ5 : ∀ (x1 : Int32) (x2 : Int32) (x3 : Int32) (r9 : (Int32 × Int32 × Int32 × Int32) ⊕ (Int32 × Int32 × Int32)), jX3_holds_99 a12 x1 x2 x3 = some r9 → (∀ a2, r9 = .inl a2 → (fun (a12 : Int32 × Int32 × Int32 × Int32) => X p l e R s m args below meth c 9 cy D B 0 0 Q 12 [(0, .ref (B + oPl j)), (1, .ref (B + oHo j1)), (2, .ref (B + oBk j2 r2)), (3, .int p3), (4, .int a12.1), (5, .int a12.2.1), (6, .int a12.2.2.1), (7, .int a12.2.2.2)] [] σ Y) a2) → (∀ b2, r9 = .inr b2 → (fun (b12 : Int32 × Int32 × Int32) => X p l e R s m args below meth c 9 cy D B 0 0 Q 105 [(2, .ref (B + oBk j2 r2)), (4, .int b12.1), (5, .int b12.2.1), (6, .int b12.2.2)] [] σ Y) b2) → X p l e R s m args below meth c 9 cy D B 0 0 Q 99 [(0, .ref (B + oPl j)), (1, .ref (B + oHo j1)), (2, .ref (B + oBk j2 r2)), (3, .int p3), (4, .int x1), (5, .int x2), (6, .int x3), (7, .int a12.2.2.2)] [] σ Y := by
        intro x1 x2 x3 r h hA1 hB2
        unfold jX3_holds_99 at h
        refine x_iinc C (k := 7) [(7, .int (a12.2.2.2 + (1 : Int32))), (0, .ref (B + oPl j)), (1, .ref (B + oHo j1)), (2, .ref (B + oBk j2 r2)), (3, .int p3), (4, .int x1), (5, .int x2), (6, .int x3)] dX3_holds_99 rfl rfl (by decide) rfl ?_
        refine x_goto C (tgt := 12) dX3_holds_102 (by decide) ?_
        cases h
        refine x_sub [1, 2, 3, 4, 5, 6, 7, 0] rfl ?_
        exact hA1 (x1, x2, x3, a12.2.2.2 + (1 : Int32)) rfl
      by_cases hc6 : rI σ 30 j1 a12.2.2.2.toNatClampNeg = 1
      · rw [if_pos hc6] at h
        refine x_lookup C (off := 25) (tgt := 72) dX3_holds_47 (by decide) (by first | (rw [hc6]; done) | (rw [hc6]; rfl)) (by decide) ?_
        refine x_iload C dX3_holds_72 5 rfl ?_
        refine x_iload C dX3_holds_74 0 rfl ?_
        refine x_iadd C dX3_holds_76 ?_
        refine x_istore C [(4, .int (a12.1 + (((p3 >>> (a12.2.2.2 &&& 31)) &&& (1 : Int32)) * (rI σ 57 j a12.2.2.2.toNatClampNeg)))), (8, .int (((p3 >>> (a12.2.2.2 &&& 31)) &&& (1 : Int32)) * (rI σ 57 j a12.2.2.2.toNatClampNeg))), (0, .ref (B + oPl j)), (1, .ref (B + oHo j1)), (2, .ref (B + oBk j2 r2)), (3, .int p3), (5, .int a12.2.1), (6, .int a12.2.2.1), (7, .int a12.2.2.2)] dX3_holds_77 (by decide) rfl ?_
        refine x_goto C (tgt := 99) dX3_holds_79 (by decide) ?_
        refine x_sub [2, 3, 4, 5, 0, 6, 7, 8] rfl ?_
        exact hJ5 (a12.1 + (((p3 >>> (a12.2.2.2 &&& 31)) &&& (1 : Int32)) * (rI σ 57 j a12.2.2.2.toNatClampNeg))) a12.2.1 a12.2.2.1 _ h hA1 hB2
      rw [if_neg hc6] at h
      by_cases hc7 : rI σ 30 j1 a12.2.2.2.toNatClampNeg = 2
      · rw [if_pos hc7] at h
        refine x_lookup C (off := 35) (tgt := 82) dX3_holds_47 (by decide) (by first | (rw [hc7]; done) | (rw [hc7]; rfl)) (by decide) ?_
        refine x_iload C dX3_holds_82 6 rfl ?_
        refine x_iload C dX3_holds_84 0 rfl ?_
        refine x_iadd C dX3_holds_86 ?_
        refine x_istore C [(5, .int (a12.2.1 + (((p3 >>> (a12.2.2.2 &&& 31)) &&& (1 : Int32)) * (rI σ 57 j a12.2.2.2.toNatClampNeg)))), (8, .int (((p3 >>> (a12.2.2.2 &&& 31)) &&& (1 : Int32)) * (rI σ 57 j a12.2.2.2.toNatClampNeg))), (0, .ref (B + oPl j)), (1, .ref (B + oHo j1)), (2, .ref (B + oBk j2 r2)), (3, .int p3), (4, .int a12.1), (6, .int a12.2.2.1), (7, .int a12.2.2.2)] dX3_holds_87 (by decide) rfl ?_
        refine x_goto C (tgt := 99) dX3_holds_89 (by decide) ?_
        refine x_sub [2, 3, 4, 5, 6, 0, 7, 8] rfl ?_
        exact hJ5 a12.1 (a12.2.1 + (((p3 >>> (a12.2.2.2 &&& 31)) &&& (1 : Int32)) * (rI σ 57 j a12.2.2.2.toNatClampNeg))) a12.2.2.1 _ h hA1 hB2
      rw [if_neg hc7] at h
      refine x_lookup C (off := 45) (tgt := 92) dX3_holds_47 (by decide) ((lv_osw hc6 (by decide)).trans (lv_osw hc7 (by decide))) (by decide) ?_
      refine x_iload C dX3_holds_92 7 rfl ?_
      refine x_iload C dX3_holds_94 0 rfl ?_
      refine x_iadd C dX3_holds_96 ?_
      refine x_istore C [(6, .int (a12.2.2.1 + (((p3 >>> (a12.2.2.2 &&& 31)) &&& (1 : Int32)) * (rI σ 57 j a12.2.2.2.toNatClampNeg)))), (8, .int (((p3 >>> (a12.2.2.2 &&& 31)) &&& (1 : Int32)) * (rI σ 57 j a12.2.2.2.toNatClampNeg))), (0, .ref (B + oPl j)), (1, .ref (B + oHo j1)), (2, .ref (B + oBk j2 r2)), (3, .int p3), (4, .int a12.1), (5, .int a12.2.1), (7, .int a12.2.2.2)] dX3_holds_97 (by decide) rfl ?_
      refine x_sub [2, 3, 4, 5, 6, 7, 0, 8] rfl ?_
      exact hJ5 a12.1 a12.2.1 (a12.2.2.1 + (((p3 >>> (a12.2.2.2 &&& 31)) &&& (1 : Int32)) * (rI σ 57 j a12.2.2.2.toNatClampNeg))) _ h hA1 hB2
  · show X p l e R s m args below meth c 9 cy D B 0 0 Q 105 [(2, .ref (B + oBk j2 r2)), (4, .int b12.1), (5, .int b12.2.1), (6, .int b12.2.2)] [] σ Y
    refine x_iconst C (v := 0) dX3_holds_105 (by decide) ?_
    refine x_aload_n C dX3_holds_106 rfl 0 rfl ?_
    refine x_get C (C1 := "HostelBeds$Booking") (T := TX0) (N := 11) (ci := 2) inXg0 _ (c_Bk hj2 hr2) rfl 3 (by decide) (lw_g_mk tw_125 rfl) rfl dX3_holds_107 ?_
    refine x_iload C dX3_holds_110 1 rfl ?_
    refine x_isub C dX3_holds_112 ?_
    refine x_mmax C (lw_g_mk tw_743 rfl) (lw_g_mk tw_744 rfl) (lw_g_mk tw_16 rfl) (lw_g_mk tw_745 rfl) (by rw [hR9]; decide) (by rw [hR9]; exact Nat.le_of_ble_eq_true rfl) (by rw [hR9]; decide) dX3_holds_113 ?_
    refine x_iconst C (v := 0) dX3_holds_116 (by decide) ?_
    refine x_aload_n C dX3_holds_117 rfl 0 rfl ?_
    refine x_get C (C1 := "HostelBeds$Booking") (T := TX0) (N := 11) (ci := 2) inXg0 _ (c_Bk hj2 hr2) rfl 4 (by decide) (lw_g_mk tw_129 rfl) rfl dX3_holds_118 ?_
    refine x_iload C dX3_holds_121 2 rfl ?_
    refine x_isub C dX3_holds_123 ?_
    refine x_mmax C (lw_g_mk tw_743 rfl) (lw_g_mk tw_744 rfl) (lw_g_mk tw_16 rfl) (lw_g_mk tw_745 rfl) (by rw [hR9]; decide) (by rw [hR9]; exact Nat.le_of_ble_eq_true rfl) (by rw [hR9]; decide) dX3_holds_124 ?_
    refine x_iadd C dX3_holds_127 ?_
    refine x_iload C dX3_holds_128 3 rfl ?_
    refine x_icmp_gt C (tgt := 137) dX3_holds_130 (by decide) (fun hc9 => ?_) (fun hc9 => ?_)
    · rw [if_pos hc9] at h
      refine x_iconst C (v := 0) dX3_holds_137 (by decide) ?_
      cases h
      exact hret _ _ dX3_holds_138 (nar_Z (Or.inl rfl))
    · rw [if_neg hc9] at h
      refine x_iconst C (v := 1) dX3_holds_133 (by decide) ?_
      refine x_goto C (tgt := 138) dX3_holds_134 (by decide) ?_
      cases h
      exact hret _ _ dX3_holds_138 (nar_Z (Or.inr rfl))
def jX3_fewestRooms_61 (a27 : Int32 × Int32) (x4 : Int32) : Option ((Int32 × Int32) ⊕ (Int32)) := (some (.inl (x4, a27.2 + (1 : Int32))))
def stX3_fewestRooms_27 (σ : Mem) (j1 : Nat) (j : Nat) (j2 : Nat) (r2 : Nat) (a27 : Int32 × Int32) : Option ((Int32 × Int32) ⊕ (Int32)) := (if (((1 : Int32) <<< ((rI σ 20 j1 0) &&& 31)) - (1 : Int32)) ≤ a27.2 then (some (.inr a27.1)) else ((fJ6_bitCount_0f7a4 a27.2).bind fun q2 => ((fJ6_bitCount_0f7a4 a27.1).bind fun q3 => (if q3 ≤ q2 then (jX3_fewestRooms_61 a27 a27.1) else ((fX3_holds j j1 j2 r2 a27.2 σ).bind fun q5 => (if q5 = 0 then (jX3_fewestRooms_61 a27 a27.1) else (jX3_fewestRooms_61 a27 a27.2)))))))
def fX3_fewestRooms (j : Nat) (j1 : Nat) (j2 : Nat) (r2 : Nat) (σ : Mem) : Option (Int32) := ((fX3_holds j j1 j2 r2 (((1 : Int32) <<< ((rI σ 20 j1 0) &&& 31)) - (1 : Int32)) σ).bind fun q1 => (if ¬ q1 = 0 then ((loop (stX3_fewestRooms_27 σ j1 j j2 r2) 5000 (((1 : Int32) <<< ((rI σ 20 j1 0) &&& 31)) - (1 : Int32), (1 : Int32))).bind fun b27 => (some b27)) else (some ((0 : Int32)))))
set_option maxHeartbeats 4000000 in
set_option maxRecDepth 100000 in
theorem okX3_fewestRooms (l : Launch) (cy : Nat → ClassId) (D : va_G) (B : Nat) (ek : EK) (j : Nat) (j1 : Nat) (j2 : Nat) (r2 : Nat) (σ : Mem) (Y : va_W) (hj : j < 2) (hj1 : j1 < 12) (hj2 : j2 < 12) (hr2 : r2 < 17) (res : Int32) (h : fX3_fewestRooms j j1 j2 r2 σ = some res) : CT l cy D B ek yX3_fewestRooms cX3_fewestRooms 6 (some .int) ({ frames := 2, cells := 0, slots := 0, locals := 49 } : Room) [.ref (B + oPl j), .ref (B + oHo j1), .ref (B + oBk j2 r2)] σ Y (some (.int res)) σ Y := by
  refine met_X (own := "HostelBeds$Plan") (by decide) rfl (Nat.le_of_ble_eq_true rfl) ?_
  intro p e s m args below meth c C hrT hlk
  have hret : ∀ (pc9 : Nat) (lcs9 : List (Nat × Value)), decode cX3_fewestRooms pc9 = .ok (.ireturn, 1) → narrow .int (.int res) = .int res → X p l e ({ frames := 2, cells := 0, slots := 0, locals := 49 } : Room) s m args below meth c 6 cy D B 0 0 (MQ below (QR cy D B (some (.int res)) σ Y) args s 0 0 (aB B)) pc9 lcs9 [.int res] σ Y := fun _ _ hd hn => x_zret C hrT hlk hn hd
  generalize (MQ below (QR cy D B (some (.int res)) σ Y) args s 0 0 (aB B)) = Q at hret ⊢
  obtain ⟨R, hR9⟩ : ∃ R : Room, R = ({ frames := 2, cells := 0, slots := 0, locals := 49 } : Room) := ⟨_, rfl⟩
  rw [← hR9] at hret ⊢
  unfold fX3_fewestRooms at h
  show X p l e R s m args below meth c 6 cy D B 0 0 Q 0 [(0, .ref (B + oPl j)), (1, .ref (B + oHo j1)), (2, .ref (B + oBk j2 r2))] [] σ Y
  refine x_iconst C (v := 1) dX3_fewestRooms_0 (by decide) ?_
  refine x_aload_n C dX3_fewestRooms_1 rfl 1 rfl ?_
  refine x_get C (C1 := "HostelBeds$Hostel") (T := TX1) (N := 12) (ci := 3) inXg1 _ (c_Ho hj1) rfl 1 (by decide) (lw_g_mk tw_188 rfl) rfl dX3_fewestRooms_2 ?_
  refine x_ishl C dX3_fewestRooms_5 ?_
  refine x_iconst C (v := 1) dX3_fewestRooms_6 (by decide) ?_
  refine x_isub C dX3_fewestRooms_7 ?_
  refine x_istore_n C [(3, .int (((1 : Int32) <<< ((rI σ 20 j1 0) &&& 31)) - (1 : Int32))), (0, .ref (B + oPl j)), (1, .ref (B + oHo j1)), (2, .ref (B + oBk j2 r2))] dX3_fewestRooms_8 rfl (by decide) rfl ?_
  refine x_aload_n C dX3_fewestRooms_9 rfl 1 rfl ?_
  refine x_aload_n C dX3_fewestRooms_10 rfl 2 rfl ?_
  refine x_aload_n C dX3_fewestRooms_11 rfl 3 rfl ?_
  refine x_iload_n C dX3_fewestRooms_12 rfl 0 rfl ?_
  obtain ⟨q1, hk1, h⟩ := Option.bind_eq_some_iff.mp h
  refine x_callV C (As := [.ref (B + oHo j1), .ref (B + oBk j2 r2), .int (((1 : Int32) <<< ((rI σ 20 j1 0) &&& 31)) - (1 : Int32))]) (rest := []) (lw_g_mk tw_740 rfl) (lw_g_mk tw_741 rfl) (c_Pl hj) (C1 := "HostelBeds$Plan") (T := TX3) (N := 8) (ci := 5) rfl (okX3_holds l cy D B ek j j1 j2 r2 (((1 : Int32) <<< ((rI σ 20 j1 0) &&& 31)) - (1 : Int32)) σ Y hj hj1 hj2 hr2 _ hk1) rfl rfl (by rw [hR9]; decide) (lw_g_mk tw_742 rfl) (lw_g_mk tw_6 rfl) (by decide) rfl (lw_g_mk tw_739 rfl) rfl (Nat.le_of_ble_eq_true rfl) dX3_fewestRooms_13 (by rw [hR9]; decide) ?_
  refine x_if_ne C (tgt := 21) dX3_fewestRooms_16 (by decide) (fun hc2 => ?_) (fun hc2 => ?_)
  · rw [if_pos hc2] at h
    refine x_iload_n C dX3_fewestRooms_21 rfl 0 rfl ?_
    refine x_istore C [(4, .int (((1 : Int32) <<< ((rI σ 20 j1 0) &&& 31)) - (1 : Int32))), (3, .int (((1 : Int32) <<< ((rI σ 20 j1 0) &&& 31)) - (1 : Int32))), (0, .ref (B + oPl j)), (1, .ref (B + oHo j1)), (2, .ref (B + oBk j2 r2))] dX3_fewestRooms_22 (by decide) rfl ?_
    refine x_iconst C (v := 1) dX3_fewestRooms_24 (by decide) ?_
    refine x_istore C [(5, .int (1 : Int32)), (4, .int (((1 : Int32) <<< ((rI σ 20 j1 0) &&& 31)) - (1 : Int32))), (3, .int (((1 : Int32) <<< ((rI σ 20 j1 0) &&& 31)) - (1 : Int32))), (0, .ref (B + oPl j)), (1, .ref (B + oHo j1)), (2, .ref (B + oBk j2 r2))] dX3_fewestRooms_25 (by decide) rfl ?_
    obtain ⟨b27, hk12, h⟩ := Option.bind_eq_some_iff.mp h
    refine x_sub [3, 4, 5, 2, 1, 0] rfl ?_
    refine loop_run (step := stX3_fewestRooms_27 σ j1 j j2 r2) (P := fun (a27 : Int32 × Int32) => X p l e R s m args below meth c 6 cy D B 0 0 Q 27 [(0, .ref (B + oPl j)), (1, .ref (B + oHo j1)), (2, .ref (B + oBk j2 r2)), (3, .int (((1 : Int32) <<< ((rI σ 20 j1 0) &&& 31)) - (1 : Int32))), (4, .int a27.1), (5, .int a27.2)] [] σ Y) (K := fun (b27 : Int32) => X p l e R s m args below meth c 6 cy D B 0 0 Q 67 [(4, .int b27)] [] σ Y) ?_ 5000 (((1 : Int32) <<< ((rI σ 20 j1 0) &&& 31)) - (1 : Int32), (1 : Int32)) b27 hk12 ?_
    · intro a27 r h hA3 hB4
      unfold stX3_fewestRooms_27 at h
      refine x_iload C dX3_fewestRooms_27 5 rfl ?_
      refine x_iload_n C dX3_fewestRooms_29 rfl 3 rfl ?_
      refine x_icmp_ge C (tgt := 67) dX3_fewestRooms_30 (by decide) (fun hc5 => ?_) (fun hc5 => ?_)
      · rw [if_pos hc5] at h
        cases h
        refine x_sub [4] rfl ?_
        exact hB4 a27.1 rfl
      · rw [if_neg hc5] at h
        refine x_iload C dX3_fewestRooms_33 5 rfl ?_
        obtain ⟨q2, hk6, h⟩ := Option.bind_eq_some_iff.mp h
        refine x_callS C (As := [.int a27.2]) (rest := []) (lw_g_mk tw_747 rfl) (okJ6_bitCount_0f7a4 l cy D B ek a27.2 σ Y _ hk6) rfl rfl (by rw [hR9]; decide) (lw_g_mk tw_748 rfl) (lw_g_mk tw_22 rfl) (by decide) rfl (lw_g_mk tw_746 rfl) rfl (Nat.le_of_ble_eq_true rfl) dX3_fewestRooms_35 (by rw [hR9]; decide) ?_
        refine x_iload C dX3_fewestRooms_38 4 rfl ?_
        obtain ⟨q3, hk7, h⟩ := Option.bind_eq_some_iff.mp h
        refine x_callS C (As := [.int a27.1]) (rest := [.int q2]) (lw_g_mk tw_747 rfl) (okJ6_bitCount_0f7a4 l cy D B ek a27.1 σ Y _ hk7) rfl rfl (by rw [hR9]; decide) (lw_g_mk tw_748 rfl) (lw_g_mk tw_22 rfl) (by decide) rfl (lw_g_mk tw_746 rfl) rfl (Nat.le_of_ble_eq_true rfl) dX3_fewestRooms_40 (by rw [hR9]; decide) ?_
        have hJ8 : ∀ (x4 : Int32) (r9 : (Int32 × Int32) ⊕ (Int32)), jX3_fewestRooms_61 a27 x4 = some r9 → (∀ a2, r9 = .inl a2 → (fun (a27 : Int32 × Int32) => X p l e R s m args below meth c 6 cy D B 0 0 Q 27 [(0, .ref (B + oPl j)), (1, .ref (B + oHo j1)), (2, .ref (B + oBk j2 r2)), (3, .int (((1 : Int32) <<< ((rI σ 20 j1 0) &&& 31)) - (1 : Int32))), (4, .int a27.1), (5, .int a27.2)] [] σ Y) a2) → (∀ b2, r9 = .inr b2 → (fun (b27 : Int32) => X p l e R s m args below meth c 6 cy D B 0 0 Q 67 [(4, .int b27)] [] σ Y) b2) → X p l e R s m args below meth c 6 cy D B 0 0 Q 61 [(0, .ref (B + oPl j)), (1, .ref (B + oHo j1)), (2, .ref (B + oBk j2 r2)), (3, .int (((1 : Int32) <<< ((rI σ 20 j1 0) &&& 31)) - (1 : Int32))), (4, .int x4), (5, .int a27.2)] [] σ Y := by
          intro x4 r h hA3 hB4
          unfold jX3_fewestRooms_61 at h
          refine x_iinc C (k := 5) [(5, .int (a27.2 + (1 : Int32))), (0, .ref (B + oPl j)), (1, .ref (B + oHo j1)), (2, .ref (B + oBk j2 r2)), (3, .int (((1 : Int32) <<< ((rI σ 20 j1 0) &&& 31)) - (1 : Int32))), (4, .int x4)] dX3_fewestRooms_61 rfl rfl (by decide) rfl ?_
          refine x_goto C (tgt := 27) dX3_fewestRooms_64 (by decide) ?_
          cases h
          refine x_sub [1, 2, 3, 4, 5, 0] rfl ?_
          exact hA3 (x4, a27.2 + (1 : Int32)) rfl
        refine x_icmp_ge C (tgt := 61) dX3_fewestRooms_43 (by decide) (fun hc9 => ?_) (fun hc9 => ?_)
        · rw [if_pos hc9] at h
          exact hJ8 a27.1 _ h hA3 hB4
        · rw [if_neg hc9] at h
          refine x_aload_n C dX3_fewestRooms_46 rfl 0 rfl ?_
          refine x_aload_n C dX3_fewestRooms_47 rfl 1 rfl ?_
          refine x_aload_n C dX3_fewestRooms_48 rfl 2 rfl ?_
          refine x_iload C dX3_fewestRooms_49 5 rfl ?_
          obtain ⟨q5, hk10, h⟩ := Option.bind_eq_some_iff.mp h
          refine x_callV C (As := [.ref (B + oHo j1), .ref (B + oBk j2 r2), .int a27.2]) (rest := []) (lw_g_mk tw_740 rfl) (lw_g_mk tw_741 rfl) (c_Pl hj) (C1 := "HostelBeds$Plan") (T := TX3) (N := 8) (ci := 5) rfl (okX3_holds l cy D B ek j j1 j2 r2 a27.2 σ Y hj hj1 hj2 hr2 _ hk10) rfl rfl (by rw [hR9]; decide) (lw_g_mk tw_742 rfl) (lw_g_mk tw_6 rfl) (by decide) rfl (lw_g_mk tw_739 rfl) rfl (Nat.le_of_ble_eq_true rfl) dX3_fewestRooms_51 (by rw [hR9]; decide) ?_
          refine x_if_eq C (tgt := 61) dX3_fewestRooms_54 (by decide) (fun hc11 => ?_) (fun hc11 => ?_)
          · rw [if_pos hc11] at h
            exact hJ8 a27.1 _ h hA3 hB4
          · rw [if_neg hc11] at h
            refine x_iload C dX3_fewestRooms_57 5 rfl ?_
            refine x_istore C [(4, .int a27.2), (0, .ref (B + oPl j)), (1, .ref (B + oHo j1)), (2, .ref (B + oBk j2 r2)), (3, .int (((1 : Int32) <<< ((rI σ 20 j1 0) &&& 31)) - (1 : Int32))), (5, .int a27.2)] dX3_fewestRooms_59 (by decide) rfl ?_
            refine x_sub [1, 2, 3, 4, 0, 5] rfl ?_
            exact hJ8 a27.2 _ h hA3 hB4
    · show X p l e R s m args below meth c 6 cy D B 0 0 Q 67 [(4, .int b27)] [] σ Y
      refine x_iload C dX3_fewestRooms_67 0 rfl ?_
      cases h
      exact hret _ _ dX3_fewestRooms_69 rfl
  · rw [if_neg hc2] at h
    refine x_iconst C (v := 0) dX3_fewestRooms_19 (by decide) ?_
    cases h
    exact hret _ _ dX3_fewestRooms_20 rfl
def jX3_firstFree_81 (a24 : Int32) : Option ((Int32) ⊕ ((Unit) ⊕ (Int32))) := (some (.inl (a24 + (1 : Int32))))
def stX3_firstFree_24 (σ : Mem) (j1 : Nat) (a3 : Int32) (p2 : Int32) (p3 : Int32) (j : Nat) (p4 : Int32) (a24 : Int32) : Option ((Int32) ⊕ ((Unit) ⊕ (Int32))) := (if (rI σ 31 j1 a3.toNatClampNeg) ≤ a24 then (some (.inr (.inl ()))) else (if ¬ ((p2 >>> (a3 &&& 31)) &&& (1 : Int32)) = (1 : Int32) then (jX3_firstFree_81 a24) else (if ¬ (rI σ 30 j1 a3.toNatClampNeg) = p3 then (jX3_firstFree_81 a24) else (gd (inb ((a3 * (10 : Int32)) + a24) 80) (if ¬ ((rI σ 50 j ((a3 * (10 : Int32)) + a24).toNatClampNeg) &&& p4) = 0 then (jX3_firstFree_81 a24) else (some (.inr (.inr ((a3 * (10 : Int32)) + a24)))))))))
def stX3_firstFree_3 (σ : Mem) (j1 : Nat) (p2 : Int32) (p3 : Int32) (j : Nat) (p4 : Int32) (a3 : Int32) : Option ((Int32) ⊕ ((Unit) ⊕ (Int32))) := (if (rI σ 20 j1 0) ≤ a3 then (some (.inr (.inl ()))) else (gd (inb a3 8) ((loop (stX3_firstFree_24 σ j1 a3 p2 p3 j p4) 5000 ((0 : Int32))).bind fun b24 => Sum.elim (fun z24 => (some (.inl (a3 + (1 : Int32))))) (fun w24 => (some (.inr (.inr w24)))) b24)))
def fX3_firstFree (j : Nat) (j1 : Nat) (p2 : Int32) (p3 : Int32) (p4 : Int32) (σ : Mem) : Option (Int32) := ((loop (stX3_firstFree_3 σ j1 p2 p3 j p4) 5000 ((0 : Int32))).bind fun b3 => Sum.elim (fun z3 => (some ((-1 : Int32)))) (fun w3 => (some w3)) b3)
set_option maxHeartbeats 4000000 in
set_option maxRecDepth 100000 in
theorem okX3_firstFree (l : Launch) (cy : Nat → ClassId) (D : va_G) (B : Nat) (ek : EK) (j : Nat) (j1 : Nat) (p2 : Int32) (p3 : Int32) (p4 : Int32) (σ : Mem) (Y : va_W) (hj : j < 2) (hj1 : j1 < 12) (res : Int32) (h : fX3_firstFree j j1 p2 p3 p4 σ = some res) : CT l cy D B ek yX3_firstFree cX3_firstFree 8 (some .int) ({ frames := 0, cells := 0, slots := 0, locals := 0 } : Room) [.ref (B + oPl j), .ref (B + oHo j1), .int p2, .int p3, .int p4] σ Y (some (.int res)) σ Y := by
  refine met_X (own := "HostelBeds$Plan") (by decide) rfl (Nat.le_of_ble_eq_true rfl) ?_
  intro p e s m args below meth c C hrT hlk
  have hret : ∀ (pc9 : Nat) (lcs9 : List (Nat × Value)), decode cX3_firstFree pc9 = .ok (.ireturn, 1) → narrow .int (.int res) = .int res → X p l e ({ frames := 0, cells := 0, slots := 0, locals := 0 } : Room) s m args below meth c 8 cy D B 0 0 (MQ below (QR cy D B (some (.int res)) σ Y) args s 0 0 (aB B)) pc9 lcs9 [.int res] σ Y := fun _ _ hd hn => x_zret C hrT hlk hn hd
  generalize (MQ below (QR cy D B (some (.int res)) σ Y) args s 0 0 (aB B)) = Q at hret ⊢
  obtain ⟨R, hR9⟩ : ∃ R : Room, R = ({ frames := 0, cells := 0, slots := 0, locals := 0 } : Room) := ⟨_, rfl⟩
  rw [← hR9] at hret ⊢
  unfold fX3_firstFree at h
  show X p l e R s m args below meth c 8 cy D B 0 0 Q 0 [(0, .ref (B + oPl j)), (1, .ref (B + oHo j1)), (2, .int p2), (3, .int p3), (4, .int p4)] [] σ Y
  refine x_iconst C (v := 0) dX3_firstFree_0 (by decide) ?_
  refine x_istore C [(5, .int (0 : Int32)), (0, .ref (B + oPl j)), (1, .ref (B + oHo j1)), (2, .int p2), (3, .int p3), (4, .int p4)] dX3_firstFree_1 (by decide) rfl ?_
  obtain ⟨b3, hk14, h⟩ := Option.bind_eq_some_iff.mp h
  refine x_sub [1, 2, 3, 4, 5, 0] rfl ?_
  refine loop_run (step := stX3_firstFree_3 σ j1 p2 p3 j p4) (P := fun (a3 : Int32) => X p l e R s m args below meth c 8 cy D B 0 0 Q 3 [(0, .ref (B + oPl j)), (1, .ref (B + oHo j1)), (2, .int p2), (3, .int p3), (4, .int p4), (5, .int a3)] [] σ Y) (K := fun (b3 : (Unit) ⊕ (Int32)) => Sum.elim (fun z3 => X p l e R s m args below meth c 8 cy D B 0 0 Q 93 [] [] σ Y) (fun w3 => ∀ (pc9 : Nat) (lcs9 : List (Nat × Value)), decode cX3_firstFree pc9 = .ok (.ireturn, 1) → narrow .int (.int w3) = .int w3 → X p l e R s m args below meth c 8 cy D B 0 0 Q pc9 lcs9 [.int w3] σ Y) b3) ?_ 5000 ((0 : Int32)) b3 hk14 ?_
  · intro a3 r h hA1 hB2
    unfold stX3_firstFree_3 at h
    refine x_iload C dX3_firstFree_3 5 rfl ?_
    refine x_aload_n C dX3_firstFree_5 rfl 1 rfl ?_
    refine x_get C (C1 := "HostelBeds$Hostel") (T := TX1) (N := 12) (ci := 3) inXg1 _ (c_Ho hj1) rfl 1 (by decide) (lw_g_mk tw_188 rfl) rfl dX3_firstFree_6 ?_
    refine x_icmp_ge C (tgt := 93) dX3_firstFree_9 (by decide) (fun hc3 => ?_) (fun hc3 => ?_)
    · rw [if_pos hc3] at h
      cases h
      refine x_sub [] rfl ?_
      exact hB2 (.inl ()) rfl
    · rw [if_neg hc3] at h
      refine x_aload_n C dX3_firstFree_12 rfl 1 rfl ?_
      refine x_get C (C1 := "HostelBeds$Hostel") (T := TX1) (N := 12) (ci := 3) inXg1 _ (c_Ho hj1) rfl 0 (by decide) (lw_g_mk tw_184 rfl) rfl dX3_firstFree_13 ?_
      refine x_iload C dX3_firstFree_16 5 rfl ?_
      obtain ⟨hg4, h⟩ := gd_some h
      refine x_aldq C _ 5 (C1 := "HostelBeds$Room") (c_Rms hj1) rfl hg4 rfl dX3_firstFree_18 ?_
      refine x_astore C [(6, .ref (B + oRm j1 a3.toNatClampNeg)), (0, .ref (B + oPl j)), (1, .ref (B + oHo j1)), (2, .int p2), (3, .int p3), (4, .int p4), (5, .int a3)] dX3_firstFree_19 (by decide) rfl ?_
      refine x_iconst C (v := 0) dX3_firstFree_21 (by decide) ?_
      refine x_istore C [(7, .int (0 : Int32)), (6, .ref (B + oRm j1 a3.toNatClampNeg)), (0, .ref (B + oPl j)), (1, .ref (B + oHo j1)), (2, .int p2), (3, .int p3), (4, .int p4), (5, .int a3)] dX3_firstFree_22 (by decide) rfl ?_
      obtain ⟨b24, hk13, h⟩ := Option.bind_eq_some_iff.mp h
      refine x_sub [2, 3, 4, 5, 6, 7, 1, 0] rfl ?_
      refine loop_run (step := stX3_firstFree_24 σ j1 a3 p2 p3 j p4) (P := fun (a24 : Int32) => X p l e R s m args below meth c 8 cy D B 0 0 Q 24 [(0, .ref (B + oPl j)), (1, .ref (B + oHo j1)), (2, .int p2), (3, .int p3), (4, .int p4), (5, .int a3), (6, .ref (B + oRm j1 a3.toNatClampNeg)), (7, .int a24)] [] σ Y) (K := fun (b24 : (Unit) ⊕ (Int32)) => Sum.elim (fun z24 => X p l e R s m args below meth c 8 cy D B 0 0 Q 87 [(0, .ref (B + oPl j)), (1, .ref (B + oHo j1)), (2, .int p2), (3, .int p3), (4, .int p4), (5, .int a3)] [] σ Y) (fun w24 => ∀ (pc9 : Nat) (lcs9 : List (Nat × Value)), decode cX3_firstFree pc9 = .ok (.ireturn, 1) → narrow .int (.int w24) = .int w24 → X p l e R s m args below meth c 8 cy D B 0 0 Q pc9 lcs9 [.int w24] σ Y) b24) ?_ 5000 ((0 : Int32)) b24 hk13 ?_
      · intro a24 r h hA5 hB6
        unfold stX3_firstFree_24 at h
        refine x_iload C dX3_firstFree_24 7 rfl ?_
        refine x_aload C dX3_firstFree_26 6 rfl ?_
        refine x_get C (C1 := "HostelBeds$Room") (T := TX4) (N := 5) (ci := 6) inXg4 _ (c_Rm hj1 (inb_lt hg4)) rfl 2 (by decide) (lw_g_mk tw_86 rfl) rfl dX3_firstFree_28 ?_
        refine x_icmp_ge C (tgt := 87) dX3_firstFree_31 (by decide) (fun hc7 => ?_) (fun hc7 => ?_)
        · rw [if_pos hc7] at h
          cases h
          refine x_sub [0, 1, 2, 3, 4, 5] rfl ?_
          exact hB6 (.inl ()) rfl
        · rw [if_neg hc7] at h
          refine x_iload_n C dX3_firstFree_34 rfl 2 rfl ?_
          refine x_iload C dX3_firstFree_35 5 rfl ?_
          refine x_ishr C dX3_firstFree_37 ?_
          refine x_iconst C (v := 1) dX3_firstFree_38 (by decide) ?_
          refine x_iand C dX3_firstFree_39 ?_
          refine x_iconst C (v := 1) dX3_firstFree_40 (by decide) ?_
          have hJ8 : ∀ (r9 : (Int32) ⊕ ((Unit) ⊕ (Int32))), jX3_firstFree_81 a24 = some r9 → (∀ a2, r9 = .inl a2 → (fun (a24 : Int32) => X p l e R s m args below meth c 8 cy D B 0 0 Q 24 [(0, .ref (B + oPl j)), (1, .ref (B + oHo j1)), (2, .int p2), (3, .int p3), (4, .int p4), (5, .int a3), (6, .ref (B + oRm j1 a3.toNatClampNeg)), (7, .int a24)] [] σ Y) a2) → (∀ b2, r9 = .inr b2 → (fun (b24 : (Unit) ⊕ (Int32)) => Sum.elim (fun z24 => X p l e R s m args below meth c 8 cy D B 0 0 Q 87 [(0, .ref (B + oPl j)), (1, .ref (B + oHo j1)), (2, .int p2), (3, .int p3), (4, .int p4), (5, .int a3)] [] σ Y) (fun w24 => ∀ (pc9 : Nat) (lcs9 : List (Nat × Value)), decode cX3_firstFree pc9 = .ok (.ireturn, 1) → narrow .int (.int w24) = .int w24 → X p l e R s m args below meth c 8 cy D B 0 0 Q pc9 lcs9 [.int w24] σ Y) b24) b2) → X p l e R s m args below meth c 8 cy D B 0 0 Q 81 [(0, .ref (B + oPl j)), (1, .ref (B + oHo j1)), (2, .int p2), (3, .int p3), (4, .int p4), (5, .int a3), (6, .ref (B + oRm j1 a3.toNatClampNeg)), (7, .int a24)] [] σ Y := by
            intro r h hA5 hB6
            unfold jX3_firstFree_81 at h
            refine x_iinc C (k := 7) [(7, .int (a24 + (1 : Int32))), (0, .ref (B + oPl j)), (1, .ref (B + oHo j1)), (2, .int p2), (3, .int p3), (4, .int p4), (5, .int a3), (6, .ref (B + oRm j1 a3.toNatClampNeg))] dX3_firstFree_81 rfl rfl (by decide) rfl ?_
            refine x_goto C (tgt := 24) dX3_firstFree_84 (by decide) ?_
            cases h
            refine x_sub [1, 2, 3, 4, 5, 6, 7, 0] rfl ?_
            exact hA5 (a24 + (1 : Int32)) rfl
          refine x_icmp_ne C (tgt := 81) dX3_firstFree_41 (by decide) (fun hc9 => ?_) (fun hc9 => ?_)
          · rw [if_pos hc9] at h
            exact hJ8 _ h hA5 hB6
          · rw [if_neg hc9] at h
            refine x_aload C dX3_firstFree_44 6 rfl ?_
            refine x_get C (C1 := "HostelBeds$Room") (T := TX4) (N := 5) (ci := 6) inXg4 _ (c_Rm hj1 (inb_lt hg4)) rfl 1 (by decide) (lw_g_mk tw_84 rfl) rfl dX3_firstFree_46 ?_
            refine x_iload_n C dX3_firstFree_49 rfl 3 rfl ?_
            refine x_icmp_ne C (tgt := 81) dX3_firstFree_50 (by decide) (fun hc10 => ?_) (fun hc10 => ?_)
            · rw [if_pos hc10] at h
              exact hJ8 _ h hA5 hB6
            · rw [if_neg hc10] at h
              refine x_aload_n C dX3_firstFree_53 rfl 0 rfl ?_
              refine x_get C (C1 := "HostelBeds$Plan") (T := TX3) (N := 8) (ci := 5) inXg3 _ (c_Pl hj) rfl 0 (by decide) (lw_g_mk tw_253 rfl) rfl dX3_firstFree_54 ?_
              refine x_iload C dX3_firstFree_57 5 rfl ?_
              refine x_bipush C (v := 10) dX3_firstFree_59 (by decide) ?_
              refine x_imul C dX3_firstFree_61 ?_
              refine x_iload C dX3_firstFree_62 7 rfl ?_
              refine x_iadd C dX3_firstFree_64 ?_
              obtain ⟨hg11, h⟩ := gd_some h
              refine x_iald C _ (c_Busy hj) hg11 dX3_firstFree_65 ?_
              refine x_iload C dX3_firstFree_66 4 rfl ?_
              refine x_iand C dX3_firstFree_68 ?_
              refine x_if_ne C (tgt := 81) dX3_firstFree_69 (by decide) (fun hc12 => ?_) (fun hc12 => ?_)
              · rw [if_pos hc12] at h
                exact hJ8 _ h hA5 hB6
              · rw [if_neg hc12] at h
                refine x_iload C dX3_firstFree_72 5 rfl ?_
                refine x_bipush C (v := 10) dX3_firstFree_74 (by decide) ?_
                refine x_imul C dX3_firstFree_76 ?_
                refine x_iload C dX3_firstFree_77 7 rfl ?_
                refine x_iadd C dX3_firstFree_79 ?_
                cases h
                exact hB6 (.inr ((a3 * (10 : Int32)) + a24)) rfl _ _ dX3_firstFree_80 rfl
      · rcases b24 with z24 | w24
        · rw [Sum.elim_inl] at h
          show X p l e R s m args below meth c 8 cy D B 0 0 Q 87 [(0, .ref (B + oPl j)), (1, .ref (B + oHo j1)), (2, .int p2), (3, .int p3), (4, .int p4), (5, .int a3)] [] σ Y
          refine x_iinc C (k := 5) [(5, .int (a3 + (1 : Int32))), (0, .ref (B + oPl j)), (1, .ref (B + oHo j1)), (2, .int p2), (3, .int p3), (4, .int p4)] dX3_firstFree_87 rfl rfl (by decide) rfl ?_
          refine x_goto C (tgt := 3) dX3_firstFree_90 (by decide) ?_
          cases h
          refine x_sub [1, 2, 3, 4, 5, 0] rfl ?_
          exact hA1 (a3 + (1 : Int32)) rfl
        · rw [Sum.elim_inr] at h
          show ∀ (pc9 : Nat) (lcs9 : List (Nat × Value)), decode cX3_firstFree pc9 = .ok (.ireturn, 1) → narrow .int (.int w24) = .int w24 → X p l e R s m args below meth c 8 cy D B 0 0 Q pc9 lcs9 [.int w24] σ Y
          cases h
          exact hB2 (.inr w24) rfl
  · rcases b3 with z3 | w3
    · rw [Sum.elim_inl] at h
      show X p l e R s m args below meth c 8 cy D B 0 0 Q 93 [] [] σ Y
      refine x_iconst C (v := -1) dX3_firstFree_93 (by decide) ?_
      cases h
      exact hret _ _ dX3_firstFree_94 rfl
    · rw [Sum.elim_inr] at h
      show ∀ (pc9 : Nat) (lcs9 : List (Nat × Value)), decode cX3_firstFree pc9 = .ok (.ireturn, 1) → narrow .int (.int w3) = .int w3 → X p l e R s m args below meth c 8 cy D B 0 0 Q pc9 lcs9 [.int w3] σ Y
      cases h
      exact hret
def jX3_giveBeds_129 (a21 : Int32 × Int32 × Mem) (x5 : Int32) (σ6 : Mem) : Option ((Int32 × Int32 × Mem) ⊕ (Int32 × Mem)) := (some (.inl (x5, a21.2.1 + (1 : Int32), σ6)))
def jX3_giveBeds_73 (a21 : Int32 × Int32 × Mem) (p2 : Int32) (j : Nat) (q1 : Int32) (j1 : Nat) (x4 : Int32) : Option ((Int32 × Int32 × Mem) ⊕ (Int32 × Mem)) := (if x4 = (-1 : Int32) then (jX3_giveBeds_129 a21 a21.1 a21.2.2) else (gd (inb x4 80) (gd (inb ((p2 * (12 : Int32)) + a21.2.1) 204) (gd (inb (x4 / (10 : Int32)) 8) (jX3_giveBeds_129 a21 (a21.1 + ((rI (wI (wI a21.2.2 50 j x4.toNatClampNeg ((rI a21.2.2 50 j x4.toNatClampNeg) ||| q1)) 51 j ((p2 * (12 : Int32)) + a21.2.1).toNatClampNeg x4) 33 j1 ((x4 / (10 : Int32)).toNatClampNeg)) * (rI (wI (wI a21.2.2 50 j x4.toNatClampNeg ((rI a21.2.2 50 j x4.toNatClampNeg) ||| q1)) 51 j ((p2 * (12 : Int32)) + a21.2.1).toNatClampNeg x4) 41 j1 p2.toNatClampNeg))) (wI (wI a21.2.2 50 j x4.toNatClampNeg ((rI a21.2.2 50 j x4.toNatClampNeg) ||| q1)) 51 j ((p2 * (12 : Int32)) + a21.2.1).toNatClampNeg x4))))))
def jX3_giveBeds_49 (j : Nat) (j1 : Nat) (p3 : Int32) (q1 : Int32) (a21 : Int32 × Int32 × Mem) (p2 : Int32) (t2 : Int32) : Option ((Int32 × Int32 × Mem) ⊕ (Int32 × Mem)) := ((fX3_firstFree j j1 p3 t2 q1 a21.2.2).bind fun q3 => (if ¬ q3 = (-1 : Int32) then (jX3_giveBeds_73 a21 p2 j q1 j1 q3) else ((fX3_firstFree j j1 p3 (0 : Int32) q1 a21.2.2).bind fun q7 => (jX3_giveBeds_73 a21 p2 j q1 j1 q7))))
def stX3_giveBeds_21 (j1 : Nat) (p2 : Int32) (j : Nat) (p3 : Int32) (q1 : Int32) (a21 : Int32 × Int32 × Mem) : Option ((Int32 × Int32 × Mem) ⊕ (Int32 × Mem)) := (if (rI a21.2.2 44 j1 p2.toNatClampNeg) ≤ a21.2.1 then (some (.inr (a21.1, a21.2.2))) else (if (rI a21.2.2 42 j1 p2.toNatClampNeg) ≤ a21.2.1 then (jX3_giveBeds_49 j j1 p3 q1 a21 p2 (2 : Int32)) else (jX3_giveBeds_49 j j1 p3 q1 a21 p2 (1 : Int32))))
def fX3_giveBeds (j : Nat) (j1 : Nat) (p2 : Int32) (p3 : Int32) (σ : Mem) : Option (Int32 × Mem) := (gd (inb p2 17) ((fX0_nightBits j1 p2.toNatClampNeg σ).bind fun q1 => ((loop (stX3_giveBeds_21 j1 p2 j p3 q1) 5000 ((0 : Int32), (0 : Int32), σ)).bind fun b21 => (if (rI b21.2 41 j1 p2.toNatClampNeg) < (rI b21.2 26 j1 0) then (some (b21.1, b21.2)) else (some ((b21.1 * ((100 : Int32) - (rI b21.2 27 j1 0))) / (100 : Int32), b21.2))))))
set_option maxHeartbeats 4000000 in
set_option maxRecDepth 100000 in
theorem okX3_giveBeds (l : Launch) (cy : Nat → ClassId) (D : va_G) (B : Nat) (ek : EK) (j : Nat) (j1 : Nat) (p2 : Int32) (p3 : Int32) (σ : Mem) (Y : va_W) (hj : j < 2) (hj1 : j1 < 12) (res : Int32 × Mem) (h : fX3_giveBeds j j1 p2 p3 σ = some res) : CT l cy D B ek yX3_giveBeds cX3_giveBeds 9 (some .int) ({ frames := 1, cells := 0, slots := 0, locals := 27 } : Room) [.ref (B + oPl j), .ref (B + oHo j1), .int p2, .int p3] σ Y (some (.int res.1)) res.2 Y := by
  refine met_X (own := "HostelBeds$Plan") (by decide) rfl (Nat.le_of_ble_eq_true rfl) ?_
  intro p e s m args below meth c C hrT hlk
  have hret : ∀ (pc9 : Nat) (lcs9 : List (Nat × Value)), decode cX3_giveBeds pc9 = .ok (.ireturn, 1) → narrow .int (.int res.1) = .int res.1 → X p l e ({ frames := 1, cells := 0, slots := 0, locals := 27 } : Room) s m args below meth c 9 cy D B 0 0 (MQ below (QR cy D B (some (.int res.1)) res.2 Y) args s 0 0 (aB B)) pc9 lcs9 [.int res.1] res.2 Y := fun _ _ hd hn => x_zret C hrT hlk hn hd
  generalize (MQ below (QR cy D B (some (.int res.1)) res.2 Y) args s 0 0 (aB B)) = Q at hret ⊢
  obtain ⟨R, hR9⟩ : ∃ R : Room, R = ({ frames := 1, cells := 0, slots := 0, locals := 27 } : Room) := ⟨_, rfl⟩
  rw [← hR9] at hret ⊢
  unfold fX3_giveBeds at h
  show X p l e R s m args below meth c 9 cy D B 0 0 Q 0 [(0, .ref (B + oPl j)), (1, .ref (B + oHo j1)), (2, .int p2), (3, .int p3)] [] σ Y
  refine x_aload_n C dX3_giveBeds_0 rfl 1 rfl ?_
  refine x_get C (C1 := "HostelBeds$Hostel") (T := TX1) (N := 12) (ci := 3) inXg1 _ (c_Ho hj1) rfl 3 (by decide) (lw_g_mk tw_194 rfl) rfl dX3_giveBeds_1 ?_
  refine x_iload_n C dX3_giveBeds_4 rfl 2 rfl ?_
  obtain ⟨hg1, h⟩ := gd_some h
  refine x_aldq C _ 6 (C1 := "HostelBeds$Booking") (c_Bks hj1) rfl hg1 rfl dX3_giveBeds_5 ?_
  refine x_astore C [(4, .ref (B + oBk j1 p2.toNatClampNeg)), (0, .ref (B + oPl j)), (1, .ref (B + oHo j1)), (2, .int p2), (3, .int p3)] dX3_giveBeds_6 (by decide) rfl ?_
  refine x_aload C dX3_giveBeds_8 0 rfl ?_
  obtain ⟨q1, hk2, h⟩ := Option.bind_eq_some_iff.mp h
  refine x_callV C (As := []) (rest := []) (lw_g_mk tw_720 rfl) (lw_g_mk tw_721 rfl) (c_Bk hj1 (inb_lt hg1)) (C1 := "HostelBeds$Booking") (T := TX0) (N := 11) (ci := 2) rfl (okX0_nightBits l cy D B ek j1 p2.toNatClampNeg σ Y hj1 (inb_lt hg1) _ hk2) rfl rfl (by rw [hR9]; decide) (lw_g_mk tw_722 rfl) (lw_g_mk tw_5 rfl) (by decide) rfl (lw_g_mk tw_719 rfl) rfl (Nat.le_of_ble_eq_true rfl) dX3_giveBeds_10 (by rw [hR9]; decide) ?_
  refine x_istore C [(5, .int q1), (4, .ref (B + oBk j1 p2.toNatClampNeg)), (0, .ref (B + oPl j)), (1, .ref (B + oHo j1)), (2, .int p2), (3, .int p3)] dX3_giveBeds_13 (by decide) rfl ?_
  refine x_iconst C (v := 0) dX3_giveBeds_15 (by decide) ?_
  refine x_istore C [(6, .int (0 : Int32)), (5, .int q1), (4, .ref (B + oBk j1 p2.toNatClampNeg)), (0, .ref (B + oPl j)), (1, .ref (B + oHo j1)), (2, .int p2), (3, .int p3)] dX3_giveBeds_16 (by decide) rfl ?_
  refine x_iconst C (v := 0) dX3_giveBeds_18 (by decide) ?_
  refine x_istore C [(7, .int (0 : Int32)), (6, .int (0 : Int32)), (5, .int q1), (4, .ref (B + oBk j1 p2.toNatClampNeg)), (0, .ref (B + oPl j)), (1, .ref (B + oHo j1)), (2, .int p2), (3, .int p3)] dX3_giveBeds_19 (by decide) rfl ?_
  obtain ⟨b21, hk17, h⟩ := Option.bind_eq_some_iff.mp h
  refine x_sub [4, 5, 6, 7, 3, 2, 1, 0] rfl ?_
  refine loop_run (step := stX3_giveBeds_21 j1 p2 j p3 q1) (P := fun (a21 : Int32 × Int32 × Mem) => X p l e R s m args below meth c 9 cy D B 0 0 Q 21 [(0, .ref (B + oPl j)), (1, .ref (B + oHo j1)), (2, .int p2), (3, .int p3), (4, .ref (B + oBk j1 p2.toNatClampNeg)), (5, .int q1), (6, .int a21.1), (7, .int a21.2.1)] [] a21.2.2 Y) (K := fun (b21 : Int32 × Mem) => X p l e R s m args below meth c 9 cy D B 0 0 Q 135 [(1, .ref (B + oHo j1)), (4, .ref (B + oBk j1 p2.toNatClampNeg)), (6, .int b21.1)] [] b21.2 Y) ?_ 5000 ((0 : Int32), (0 : Int32), σ) b21 hk17 ?_
  · intro a21 r h hA3 hB4
    unfold stX3_giveBeds_21 at h
    refine x_iload C dX3_giveBeds_21 7 rfl ?_
    refine x_aload C dX3_giveBeds_23 4 rfl ?_
    refine x_get C (C1 := "HostelBeds$Booking") (T := TX0) (N := 11) (ci := 2) inXg0 _ (c_Bk hj1 (inb_lt hg1)) rfl 5 (by decide) (lw_g_mk tw_132 rfl) rfl dX3_giveBeds_25 ?_
    refine x_icmp_ge C (tgt := 135) dX3_giveBeds_28 (by decide) (fun hc5 => ?_) (fun hc5 => ?_)
    · rw [if_pos hc5] at h
      cases h
      refine x_sub [1, 4, 6] rfl ?_
      exact hB4 (a21.1, a21.2.2) rfl
    · rw [if_neg hc5] at h
      refine x_aload_n C dX3_giveBeds_31 rfl 0 rfl ?_
      refine x_aload_n C dX3_giveBeds_32 rfl 1 rfl ?_
      refine x_iload_n C dX3_giveBeds_33 rfl 3 rfl ?_
      refine x_iload C dX3_giveBeds_34 7 rfl ?_
      refine x_aload C dX3_giveBeds_36 4 rfl ?_
      refine x_get C (C1 := "HostelBeds$Booking") (T := TX0) (N := 11) (ci := 2) inXg0 _ (c_Bk hj1 (inb_lt hg1)) rfl 3 (by decide) (lw_g_mk tw_125 rfl) rfl dX3_giveBeds_38 ?_
      have hJ15 : ∀ (t2 : Int32) (r9 : (Int32 × Int32 × Mem) ⊕ (Int32 × Mem)), jX3_giveBeds_49 j j1 p3 q1 a21 p2 t2 = some r9 → (∀ a2, r9 = .inl a2 → (fun (a21 : Int32 × Int32 × Mem) => X p l e R s m args below meth c 9 cy D B 0 0 Q 21 [(0, .ref (B + oPl j)), (1, .ref (B + oHo j1)), (2, .int p2), (3, .int p3), (4, .ref (B + oBk j1 p2.toNatClampNeg)), (5, .int q1), (6, .int a21.1), (7, .int a21.2.1)] [] a21.2.2 Y) a2) → (∀ b2, r9 = .inr b2 → (fun (b21 : Int32 × Mem) => X p l e R s m args below meth c 9 cy D B 0 0 Q 135 [(1, .ref (B + oHo j1)), (4, .ref (B + oBk j1 p2.toNatClampNeg)), (6, .int b21.1)] [] b21.2 Y) b2) → X p l e R s m args below meth c 9 cy D B 0 0 Q 49 [(0, .ref (B + oPl j)), (1, .ref (B + oHo j1)), (2, .int p2), (3, .int p3), (4, .ref (B + oBk j1 p2.toNatClampNeg)), (5, .int q1), (6, .int a21.1), (7, .int a21.2.1)] [.int t2, .int p3, .ref (B + oHo j1), .ref (B + oPl j)] a21.2.2 Y := by
        intro t2 r h hA3 hB4
        unfold jX3_giveBeds_49 at h
        refine x_iload C dX3_giveBeds_49 5 rfl ?_
        obtain ⟨q3, hk6, h⟩ := Option.bind_eq_some_iff.mp h
        refine x_callV C (As := [.ref (B + oHo j1), .int p3, .int t2, .int q1]) (rest := []) (lw_g_mk tw_757 rfl) (lw_g_mk tw_758 rfl) (c_Pl hj) (C1 := "HostelBeds$Plan") (T := TX3) (N := 8) (ci := 5) rfl (okX3_firstFree l cy D B ek j j1 p3 t2 q1 a21.2.2 Y hj hj1 _ hk6) rfl rfl (by rw [hR9]; decide) (lw_g_mk tw_759 rfl) (lw_g_mk tw_6 rfl) (by decide) rfl (lw_g_mk tw_756 rfl) rfl (Nat.le_of_ble_eq_true rfl) dX3_giveBeds_51 (by rw [hR9]; decide) ?_
        refine x_istore C [(8, .int q3), (0, .ref (B + oPl j)), (1, .ref (B + oHo j1)), (2, .int p2), (3, .int p3), (4, .ref (B + oBk j1 p2.toNatClampNeg)), (5, .int q1), (6, .int a21.1), (7, .int a21.2.1)] dX3_giveBeds_54 (by decide) rfl ?_
        refine x_iload C dX3_giveBeds_56 0 rfl ?_
        refine x_iconst C (v := -1) dX3_giveBeds_58 (by decide) ?_
        have hJ12 : ∀ (x4 : Int32) (r9 : (Int32 × Int32 × Mem) ⊕ (Int32 × Mem)), jX3_giveBeds_73 a21 p2 j q1 j1 x4 = some r9 → (∀ a2, r9 = .inl a2 → (fun (a21 : Int32 × Int32 × Mem) => X p l e R s m args below meth c 9 cy D B 0 0 Q 21 [(0, .ref (B + oPl j)), (1, .ref (B + oHo j1)), (2, .int p2), (3, .int p3), (4, .ref (B + oBk j1 p2.toNatClampNeg)), (5, .int q1), (6, .int a21.1), (7, .int a21.2.1)] [] a21.2.2 Y) a2) → (∀ b2, r9 = .inr b2 → (fun (b21 : Int32 × Mem) => X p l e R s m args below meth c 9 cy D B 0 0 Q 135 [(1, .ref (B + oHo j1)), (4, .ref (B + oBk j1 p2.toNatClampNeg)), (6, .int b21.1)] [] b21.2 Y) b2) → X p l e R s m args below meth c 9 cy D B 0 0 Q 73 [(0, .ref (B + oPl j)), (1, .ref (B + oHo j1)), (2, .int p2), (3, .int p3), (4, .ref (B + oBk j1 p2.toNatClampNeg)), (5, .int q1), (6, .int a21.1), (7, .int a21.2.1), (8, .int x4)] [] a21.2.2 Y := by
          intro x4 r h hA3 hB4
          unfold jX3_giveBeds_73 at h
          refine x_iload C dX3_giveBeds_73 8 rfl ?_
          refine x_iconst C (v := -1) dX3_giveBeds_75 (by decide) ?_
          have hJ7 : ∀ (x5 : Int32) (σ6 : Mem) (r9 : (Int32 × Int32 × Mem) ⊕ (Int32 × Mem)), jX3_giveBeds_129 a21 x5 σ6 = some r9 → (∀ a2, r9 = .inl a2 → (fun (a21 : Int32 × Int32 × Mem) => X p l e R s m args below meth c 9 cy D B 0 0 Q 21 [(0, .ref (B + oPl j)), (1, .ref (B + oHo j1)), (2, .int p2), (3, .int p3), (4, .ref (B + oBk j1 p2.toNatClampNeg)), (5, .int q1), (6, .int a21.1), (7, .int a21.2.1)] [] a21.2.2 Y) a2) → (∀ b2, r9 = .inr b2 → (fun (b21 : Int32 × Mem) => X p l e R s m args below meth c 9 cy D B 0 0 Q 135 [(1, .ref (B + oHo j1)), (4, .ref (B + oBk j1 p2.toNatClampNeg)), (6, .int b21.1)] [] b21.2 Y) b2) → X p l e R s m args below meth c 9 cy D B 0 0 Q 129 [(0, .ref (B + oPl j)), (1, .ref (B + oHo j1)), (2, .int p2), (3, .int p3), (4, .ref (B + oBk j1 p2.toNatClampNeg)), (5, .int q1), (6, .int x5), (7, .int a21.2.1)] [] σ6 Y := by
            intro x5 σ6 r h hA3 hB4
            unfold jX3_giveBeds_129 at h
            refine x_iinc C (k := 7) [(7, .int (a21.2.1 + (1 : Int32))), (0, .ref (B + oPl j)), (1, .ref (B + oHo j1)), (2, .int p2), (3, .int p3), (4, .ref (B + oBk j1 p2.toNatClampNeg)), (5, .int q1), (6, .int x5)] dX3_giveBeds_129 rfl rfl (by decide) rfl ?_
            refine x_goto C (tgt := 21) dX3_giveBeds_132 (by decide) ?_
            cases h
            refine x_sub [1, 2, 3, 4, 5, 6, 7, 0] rfl ?_
            exact hA3 (x5, a21.2.1 + (1 : Int32), σ6) rfl
          refine x_icmp_eq C (tgt := 129) dX3_giveBeds_76 (by decide) (fun hc8 => ?_) (fun hc8 => ?_)
          · rw [if_pos hc8] at h
            refine x_sub [0, 1, 2, 3, 4, 5, 6, 7] rfl ?_
            exact hJ7 a21.1 a21.2.2 _ h hA3 hB4
          · rw [if_neg hc8] at h
            refine x_aload_n C dX3_giveBeds_79 rfl 0 rfl ?_
            refine x_get C (C1 := "HostelBeds$Plan") (T := TX3) (N := 8) (ci := 5) inXg3 _ (c_Pl hj) rfl 0 (by decide) (lw_g_mk tw_253 rfl) rfl dX3_giveBeds_80 ?_
            refine x_iload C dX3_giveBeds_83 8 rfl ?_
            refine x_dup2 C dX3_giveBeds_85 rfl rfl ?_
            obtain ⟨hg9, h⟩ := gd_some h
            refine x_iald C _ (c_Busy hj) hg9 dX3_giveBeds_86 ?_
            refine x_iload C dX3_giveBeds_87 5 rfl ?_
            refine x_ior C dX3_giveBeds_89 ?_
            refine x_iast C _ (c_Busy hj) hg9 dX3_giveBeds_90 (s_Busy hj) ?_
            refine x_aload_n C dX3_giveBeds_91 rfl 0 rfl ?_
            refine x_get C (C1 := "HostelBeds$Plan") (T := TX3) (N := 8) (ci := 5) inXg3 _ (c_Pl hj) rfl 1 (by decide) (lw_g_mk tw_254 rfl) rfl dX3_giveBeds_92 ?_
            refine x_iload_n C dX3_giveBeds_95 rfl 2 rfl ?_
            refine x_bipush C (v := 12) dX3_giveBeds_96 (by decide) ?_
            refine x_imul C dX3_giveBeds_98 ?_
            refine x_iload C dX3_giveBeds_99 7 rfl ?_
            refine x_iadd C dX3_giveBeds_101 ?_
            refine x_iload C dX3_giveBeds_102 8 rfl ?_
            obtain ⟨hg10, h⟩ := gd_some h
            refine x_iast C _ (c_Bop hj) hg10 dX3_giveBeds_104 (s_Bop hj) ?_
            refine x_iload C dX3_giveBeds_105 6 rfl ?_
            refine x_aload_n C dX3_giveBeds_107 rfl 1 rfl ?_
            refine x_get C (C1 := "HostelBeds$Hostel") (T := TX1) (N := 12) (ci := 3) inXg1 _ (c_Ho hj1) rfl 0 (by decide) (lw_g_mk tw_184 rfl) rfl dX3_giveBeds_108 ?_
            refine x_iload C dX3_giveBeds_111 8 rfl ?_
            refine x_bipush C (v := 10) dX3_giveBeds_113 (by decide) ?_
            refine x_idiv C dX3_giveBeds_115 (by decide) ?_
            obtain ⟨hg11, h⟩ := gd_some h
            refine x_aldq C _ 5 (C1 := "HostelBeds$Room") (c_Rms hj1) rfl hg11 rfl dX3_giveBeds_116 ?_
            refine x_get C (C1 := "HostelBeds$Room") (T := TX4) (N := 5) (ci := 6) inXg4 _ (c_Rm hj1 (inb_lt hg11)) rfl 4 (by decide) (lw_g_mk tw_93 rfl) rfl dX3_giveBeds_117 ?_
            refine x_aload C dX3_giveBeds_120 4 rfl ?_
            refine x_get C (C1 := "HostelBeds$Booking") (T := TX0) (N := 11) (ci := 2) inXg0 _ (c_Bk hj1 (inb_lt hg1)) rfl 2 (by decide) (lw_g_mk tw_120 rfl) rfl dX3_giveBeds_122 ?_
            refine x_imul C dX3_giveBeds_125 ?_
            refine x_iadd C dX3_giveBeds_126 ?_
            refine x_istore C [(6, .int (a21.1 + ((rI (wI (wI a21.2.2 50 j x4.toNatClampNeg ((rI a21.2.2 50 j x4.toNatClampNeg) ||| q1)) 51 j ((p2 * (12 : Int32)) + a21.2.1).toNatClampNeg x4) 33 j1 ((x4 / (10 : Int32)).toNatClampNeg)) * (rI (wI (wI a21.2.2 50 j x4.toNatClampNeg ((rI a21.2.2 50 j x4.toNatClampNeg) ||| q1)) 51 j ((p2 * (12 : Int32)) + a21.2.1).toNatClampNeg x4) 41 j1 p2.toNatClampNeg)))), (0, .ref (B + oPl j)), (1, .ref (B + oHo j1)), (2, .int p2), (3, .int p3), (4, .ref (B + oBk j1 p2.toNatClampNeg)), (5, .int q1), (7, .int a21.2.1), (8, .int x4)] dX3_giveBeds_127 (by decide) rfl ?_
            refine x_sub [1, 2, 3, 4, 5, 6, 0, 7] rfl ?_
            exact hJ7 (a21.1 + ((rI (wI (wI a21.2.2 50 j x4.toNatClampNeg ((rI a21.2.2 50 j x4.toNatClampNeg) ||| q1)) 51 j ((p2 * (12 : Int32)) + a21.2.1).toNatClampNeg x4) 33 j1 ((x4 / (10 : Int32)).toNatClampNeg)) * (rI (wI (wI a21.2.2 50 j x4.toNatClampNeg ((rI a21.2.2 50 j x4.toNatClampNeg) ||| q1)) 51 j ((p2 * (12 : Int32)) + a21.2.1).toNatClampNeg x4) 41 j1 p2.toNatClampNeg))) (wI (wI a21.2.2 50 j x4.toNatClampNeg ((rI a21.2.2 50 j x4.toNatClampNeg) ||| q1)) 51 j ((p2 * (12 : Int32)) + a21.2.1).toNatClampNeg x4) _ h hA3 hB4
        refine x_icmp_ne C (tgt := 73) dX3_giveBeds_59 (by decide) (fun hc13 => ?_) (fun hc13 => ?_)
        · rw [if_pos hc13] at h
          refine x_sub [1, 2, 3, 4, 5, 6, 7, 8, 0] rfl ?_
          exact hJ12 q3 _ h hA3 hB4
        · rw [if_neg hc13] at h
          refine x_aload_n C dX3_giveBeds_62 rfl 1 rfl ?_
          refine x_aload_n C dX3_giveBeds_63 rfl 2 rfl ?_
          refine x_iload_n C dX3_giveBeds_64 rfl 4 rfl ?_
          refine x_iconst C (v := 0) dX3_giveBeds_65 (by decide) ?_
          refine x_iload C dX3_giveBeds_66 6 rfl ?_
          obtain ⟨q7, hk14, h⟩ := Option.bind_eq_some_iff.mp h
          refine x_callV C (As := [.ref (B + oHo j1), .int p3, .int (0 : Int32), .int q1]) (rest := []) (lw_g_mk tw_757 rfl) (lw_g_mk tw_758 rfl) (c_Pl hj) (C1 := "HostelBeds$Plan") (T := TX3) (N := 8) (ci := 5) rfl (okX3_firstFree l cy D B ek j j1 p3 (0 : Int32) q1 a21.2.2 Y hj hj1 _ hk14) rfl rfl (by rw [hR9]; decide) (lw_g_mk tw_759 rfl) (lw_g_mk tw_6 rfl) (by decide) rfl (lw_g_mk tw_756 rfl) rfl (Nat.le_of_ble_eq_true rfl) dX3_giveBeds_68 (by rw [hR9]; decide) ?_
          refine x_istore C [(8, .int q7), (0, .ref (B + oPl j)), (1, .ref (B + oHo j1)), (2, .int p2), (3, .int p3), (4, .ref (B + oBk j1 p2.toNatClampNeg)), (5, .int q1), (6, .int a21.1), (7, .int a21.2.1)] dX3_giveBeds_71 (by decide) rfl ?_
          refine x_sub [1, 2, 3, 4, 5, 6, 7, 8, 0] rfl ?_
          exact hJ12 q7 _ h hA3 hB4
      refine x_icmp_ge C (tgt := 48) dX3_giveBeds_41 (by decide) (fun hc16 => ?_) (fun hc16 => ?_)
      · rw [if_pos hc16] at h
        refine x_iconst C (v := 2) dX3_giveBeds_48 (by decide) ?_
        exact hJ15 (2 : Int32) _ h hA3 hB4
      · rw [if_neg hc16] at h
        refine x_iconst C (v := 1) dX3_giveBeds_44 (by decide) ?_
        refine x_goto C (tgt := 49) dX3_giveBeds_45 (by decide) ?_
        exact hJ15 (1 : Int32) _ h hA3 hB4
  · show X p l e R s m args below meth c 9 cy D B 0 0 Q 135 [(1, .ref (B + oHo j1)), (4, .ref (B + oBk j1 p2.toNatClampNeg)), (6, .int b21.1)] [] b21.2 Y
    refine x_aload C dX3_giveBeds_135 1 rfl ?_
    refine x_get C (C1 := "HostelBeds$Booking") (T := TX0) (N := 11) (ci := 2) inXg0 _ (c_Bk hj1 (inb_lt hg1)) rfl 2 (by decide) (lw_g_mk tw_120 rfl) rfl dX3_giveBeds_137 ?_
    refine x_aload_n C dX3_giveBeds_140 rfl 0 rfl ?_
    refine x_get C (C1 := "HostelBeds$Hostel") (T := TX1) (N := 12) (ci := 3) inXg1 _ (c_Ho hj1) rfl 10 (by decide) (lw_g_mk tw_216 rfl) rfl dX3_giveBeds_141 ?_
    refine x_icmp_lt C (tgt := 163) dX3_giveBeds_144 (by decide) (fun hc18 => ?_) (fun hc18 => ?_)
    · rw [if_pos hc18] at h
      refine x_iload C dX3_giveBeds_163 2 rfl ?_
      cases h
      exact hret _ _ dX3_giveBeds_165 rfl
    · rw [if_neg hc18] at h
      refine x_iload C dX3_giveBeds_147 2 rfl ?_
      refine x_bipush C (v := 100) dX3_giveBeds_149 (by decide) ?_
      refine x_aload_n C dX3_giveBeds_151 rfl 0 rfl ?_
      refine x_get C (C1 := "HostelBeds$Hostel") (T := TX1) (N := 12) (ci := 3) inXg1 _ (c_Ho hj1) rfl 11 (by decide) (lw_g_mk tw_220 rfl) rfl dX3_giveBeds_152 ?_
      refine x_isub C dX3_giveBeds_155 ?_
      refine x_imul C dX3_giveBeds_156 ?_
      refine x_bipush C (v := 100) dX3_giveBeds_157 (by decide) ?_
      refine x_idiv C dX3_giveBeds_159 (by decide) ?_
      refine x_goto C (tgt := 165) dX3_giveBeds_160 (by decide) ?_
      cases h
      exact hret _ _ dX3_giveBeds_165 rfl
def jX3_isBetter_51 : Option (Int32) := (some ((1 : Int32)))
def jX3_isBetter_55 : Option (Int32) := (some ((0 : Int32)))
def fX3_isBetter (j : Nat) (j1 : Nat) (p2 : Int32) (p3 : Int32) (σ : Mem) : Option (Int32) := (gd (inb p2 8) (gd (inb p3 8) (if (rI σ 57 j p2.toNatClampNeg) < (rI σ 57 j p3.toNatClampNeg) then (jX3_isBetter_51) else (if ¬ (rI σ 57 j p2.toNatClampNeg) = (rI σ 57 j p3.toNatClampNeg) then (jX3_isBetter_55) else (if (rI σ 33 j1 p3.toNatClampNeg) ≤ (rI σ 33 j1 p2.toNatClampNeg) then (jX3_isBetter_55) else (jX3_isBetter_51))))))
set_option maxHeartbeats 4000000 in
set_option maxRecDepth 100000 in
theorem okX3_isBetter (l : Launch) (cy : Nat → ClassId) (D : va_G) (B : Nat) (ek : EK) (j : Nat) (j1 : Nat) (p2 : Int32) (p3 : Int32) (σ : Mem) (Y : va_W) (hj : j < 2) (hj1 : j1 < 12) (res : Int32) (h : fX3_isBetter j j1 p2 p3 σ = some res) : CT l cy D B ek yX3_isBetter cX3_isBetter 4 (some .boolean) ({ frames := 0, cells := 0, slots := 0, locals := 0 } : Room) [.ref (B + oPl j), .ref (B + oHo j1), .int p2, .int p3] σ Y (some (.int res)) σ Y := by
  refine met_X (own := "HostelBeds$Plan") (by decide) rfl (Nat.le_of_ble_eq_true rfl) ?_
  intro p e s m args below meth c C hrT hlk
  have hret : ∀ (pc9 : Nat) (lcs9 : List (Nat × Value)), decode cX3_isBetter pc9 = .ok (.ireturn, 1) → narrow .boolean (.int res) = .int res → X p l e ({ frames := 0, cells := 0, slots := 0, locals := 0 } : Room) s m args below meth c 4 cy D B 0 0 (MQ below (QR cy D B (some (.int res)) σ Y) args s 0 0 (aB B)) pc9 lcs9 [.int res] σ Y := fun _ _ hd hn => x_zret C hrT hlk hn hd
  generalize (MQ below (QR cy D B (some (.int res)) σ Y) args s 0 0 (aB B)) = Q at hret ⊢
  obtain ⟨R, hR9⟩ : ∃ R : Room, R = ({ frames := 0, cells := 0, slots := 0, locals := 0 } : Room) := ⟨_, rfl⟩
  rw [← hR9] at hret ⊢
  unfold fX3_isBetter at h
  show X p l e R s m args below meth c 4 cy D B 0 0 Q 0 [(0, .ref (B + oPl j)), (1, .ref (B + oHo j1)), (2, .int p2), (3, .int p3)] [] σ Y
  refine x_aload_n C dX3_isBetter_0 rfl 0 rfl ?_
  refine x_get C (C1 := "HostelBeds$Plan") (T := TX3) (N := 8) (ci := 5) inXg3 _ (c_Pl hj) rfl 7 (by decide) (lw_g_mk tw_266 rfl) rfl dX3_isBetter_1 ?_
  refine x_iload_n C dX3_isBetter_4 rfl 2 rfl ?_
  obtain ⟨hg1, h⟩ := gd_some h
  refine x_iald C _ (c_Free hj) hg1 dX3_isBetter_5 ?_
  refine x_aload_n C dX3_isBetter_6 rfl 0 rfl ?_
  refine x_get C (C1 := "HostelBeds$Plan") (T := TX3) (N := 8) (ci := 5) inXg3 _ (c_Pl hj) rfl 7 (by decide) (lw_g_mk tw_266 rfl) rfl dX3_isBetter_7 ?_
  refine x_iload_n C dX3_isBetter_10 rfl 3 rfl ?_
  obtain ⟨hg2, h⟩ := gd_some h
  refine x_iald C _ (c_Free hj) hg2 dX3_isBetter_11 ?_
  have hJ3 : ∀ (r9 : Int32), jX3_isBetter_51 = some r9 → (∀ (pc9 : Nat) (lcs9 : List (Nat × Value)), decode cX3_isBetter pc9 = .ok (.ireturn, 1) → narrow .boolean (.int r9) = .int r9 → X p l e R s m args below meth c 4 cy D B 0 0 Q pc9 lcs9 [.int r9] σ Y) → X p l e R s m args below meth c 4 cy D B 0 0 Q 51 [] [] σ Y := by
    intro res9 h hret
    unfold jX3_isBetter_51 at h
    refine x_iconst C (v := 1) dX3_isBetter_51 (by decide) ?_
    refine x_goto C (tgt := 56) dX3_isBetter_52 (by decide) ?_
    cases h
    exact hret _ _ dX3_isBetter_56 (nar_Z (Or.inr rfl))
  refine x_icmp_lt C (tgt := 51) dX3_isBetter_12 (by decide) (fun hc4 => ?_) (fun hc4 => ?_)
  · rw [if_pos hc4] at h
    refine x_sub [] rfl ?_
    exact hJ3 _ h hret
  · rw [if_neg hc4] at h
    refine x_aload_n C dX3_isBetter_15 rfl 0 rfl ?_
    refine x_get C (C1 := "HostelBeds$Plan") (T := TX3) (N := 8) (ci := 5) inXg3 _ (c_Pl hj) rfl 7 (by decide) (lw_g_mk tw_266 rfl) rfl dX3_isBetter_16 ?_
    refine x_iload_n C dX3_isBetter_19 rfl 2 rfl ?_
    refine x_iald C _ (c_Free hj) hg1 dX3_isBetter_20 ?_
    refine x_aload_n C dX3_isBetter_21 rfl 0 rfl ?_
    refine x_get C (C1 := "HostelBeds$Plan") (T := TX3) (N := 8) (ci := 5) inXg3 _ (c_Pl hj) rfl 7 (by decide) (lw_g_mk tw_266 rfl) rfl dX3_isBetter_22 ?_
    refine x_iload_n C dX3_isBetter_25 rfl 3 rfl ?_
    refine x_iald C _ (c_Free hj) hg2 dX3_isBetter_26 ?_
    have hJ5 : ∀ (r9 : Int32), jX3_isBetter_55 = some r9 → (∀ (pc9 : Nat) (lcs9 : List (Nat × Value)), decode cX3_isBetter pc9 = .ok (.ireturn, 1) → narrow .boolean (.int r9) = .int r9 → X p l e R s m args below meth c 4 cy D B 0 0 Q pc9 lcs9 [.int r9] σ Y) → X p l e R s m args below meth c 4 cy D B 0 0 Q 55 [] [] σ Y := by
      intro res9 h hret
      unfold jX3_isBetter_55 at h
      refine x_iconst C (v := 0) dX3_isBetter_55 (by decide) ?_
      cases h
      exact hret _ _ dX3_isBetter_56 (nar_Z (Or.inl rfl))
    refine x_icmp_ne C (tgt := 55) dX3_isBetter_27 (by decide) (fun hc6 => ?_) (fun hc6 => ?_)
    · rw [if_pos hc6] at h
      refine x_sub [] rfl ?_
      exact hJ5 _ h hret
    · rw [if_neg hc6] at h
      refine x_aload_n C dX3_isBetter_30 rfl 1 rfl ?_
      refine x_get C (C1 := "HostelBeds$Hostel") (T := TX1) (N := 12) (ci := 3) inXg1 _ (c_Ho hj1) rfl 0 (by decide) (lw_g_mk tw_184 rfl) rfl dX3_isBetter_31 ?_
      refine x_iload_n C dX3_isBetter_34 rfl 2 rfl ?_
      refine x_aldq C _ 5 (C1 := "HostelBeds$Room") (c_Rms hj1) rfl hg1 rfl dX3_isBetter_35 ?_
      refine x_get C (C1 := "HostelBeds$Room") (T := TX4) (N := 5) (ci := 6) inXg4 _ (c_Rm hj1 (inb_lt hg1)) rfl 4 (by decide) (lw_g_mk tw_93 rfl) rfl dX3_isBetter_36 ?_
      refine x_aload_n C dX3_isBetter_39 rfl 1 rfl ?_
      refine x_get C (C1 := "HostelBeds$Hostel") (T := TX1) (N := 12) (ci := 3) inXg1 _ (c_Ho hj1) rfl 0 (by decide) (lw_g_mk tw_184 rfl) rfl dX3_isBetter_40 ?_
      refine x_iload_n C dX3_isBetter_43 rfl 3 rfl ?_
      refine x_aldq C _ 5 (C1 := "HostelBeds$Room") (c_Rms hj1) rfl hg2 rfl dX3_isBetter_44 ?_
      refine x_get C (C1 := "HostelBeds$Room") (T := TX4) (N := 5) (ci := 6) inXg4 _ (c_Rm hj1 (inb_lt hg2)) rfl 4 (by decide) (lw_g_mk tw_93 rfl) rfl dX3_isBetter_45 ?_
      refine x_icmp_ge C (tgt := 55) dX3_isBetter_48 (by decide) (fun hc7 => ?_) (fun hc7 => ?_)
      · rw [if_pos hc7] at h
        refine x_sub [] rfl ?_
        exact hJ5 _ h hret
      · rw [if_neg hc7] at h
        refine x_sub [] rfl ?_
        exact hJ3 _ h hret
def jX3_oneRoom_61 (a5 : Int32 × Int32) (x1 : Int32) : Option ((Int32 × Int32) ⊕ (Int32)) := (some (.inl (x1, a5.2 + (1 : Int32))))
def jX3_oneRoom_58 (a5 : Int32 × Int32) : Option ((Int32 × Int32) ⊕ (Int32)) := (jX3_oneRoom_61 a5 a5.2)
def stX3_oneRoom_5 (σ : Mem) (j1 : Nat) (j : Nat) (j2 : Nat) (r2 : Nat) (a5 : Int32 × Int32) : Option ((Int32 × Int32) ⊕ (Int32)) := (if (rI σ 20 j1 0) ≤ a5.2 then (some (.inr a5.1)) else (gd (inb a5.2 8) (if (rI σ 57 j a5.2.toNatClampNeg) < (rI σ 44 j2 r2) then (jX3_oneRoom_61 a5 a5.1) else ((fX4_takesAll j1 a5.2.toNatClampNeg j2 r2 σ).bind fun q2 => (if q2 = 0 then (jX3_oneRoom_61 a5 a5.1) else (if a5.1 = (-1 : Int32) then (jX3_oneRoom_58 a5) else ((fX3_isBetter j j1 a5.2 a5.1 σ).bind fun q3 => (if q3 = 0 then (jX3_oneRoom_61 a5 a5.1) else (jX3_oneRoom_58 a5)))))))))
def fX3_oneRoom (j : Nat) (j1 : Nat) (j2 : Nat) (r2 : Nat) (σ : Mem) : Option (Int32) := ((loop (stX3_oneRoom_5 σ j1 j j2 r2) 5000 ((-1 : Int32), (0 : Int32))).bind fun b5 => (if ¬ b5 = (-1 : Int32) then (some ((1 : Int32) <<< (b5 &&& 31))) else (some ((0 : Int32)))))
set_option maxHeartbeats 4000000 in
set_option maxRecDepth 100000 in
theorem okX3_oneRoom (l : Launch) (cy : Nat → ClassId) (D : va_G) (B : Nat) (ek : EK) (j : Nat) (j1 : Nat) (j2 : Nat) (r2 : Nat) (σ : Mem) (Y : va_W) (hj : j < 2) (hj1 : j1 < 12) (hj2 : j2 < 12) (hr2 : r2 < 17) (res : Int32) (h : fX3_oneRoom j j1 j2 r2 σ = some res) : CT l cy D B ek yX3_oneRoom cX3_oneRoom 5 (some .int) ({ frames := 1, cells := 0, slots := 0, locals := 23 } : Room) [.ref (B + oPl j), .ref (B + oHo j1), .ref (B + oBk j2 r2)] σ Y (some (.int res)) σ Y := by
  refine met_X (own := "HostelBeds$Plan") (by decide) rfl (Nat.le_of_ble_eq_true rfl) ?_
  intro p e s m args below meth c C hrT hlk
  have hret : ∀ (pc9 : Nat) (lcs9 : List (Nat × Value)), decode cX3_oneRoom pc9 = .ok (.ireturn, 1) → narrow .int (.int res) = .int res → X p l e ({ frames := 1, cells := 0, slots := 0, locals := 23 } : Room) s m args below meth c 5 cy D B 0 0 (MQ below (QR cy D B (some (.int res)) σ Y) args s 0 0 (aB B)) pc9 lcs9 [.int res] σ Y := fun _ _ hd hn => x_zret C hrT hlk hn hd
  generalize (MQ below (QR cy D B (some (.int res)) σ Y) args s 0 0 (aB B)) = Q at hret ⊢
  obtain ⟨R, hR9⟩ : ∃ R : Room, R = ({ frames := 1, cells := 0, slots := 0, locals := 23 } : Room) := ⟨_, rfl⟩
  rw [← hR9] at hret ⊢
  unfold fX3_oneRoom at h
  show X p l e R s m args below meth c 5 cy D B 0 0 Q 0 [(0, .ref (B + oPl j)), (1, .ref (B + oHo j1)), (2, .ref (B + oBk j2 r2))] [] σ Y
  refine x_iconst C (v := -1) dX3_oneRoom_0 (by decide) ?_
  refine x_istore_n C [(3, .int (-1 : Int32)), (0, .ref (B + oPl j)), (1, .ref (B + oHo j1)), (2, .ref (B + oBk j2 r2))] dX3_oneRoom_1 rfl (by decide) rfl ?_
  refine x_iconst C (v := 0) dX3_oneRoom_2 (by decide) ?_
  refine x_istore C [(4, .int (0 : Int32)), (3, .int (-1 : Int32)), (0, .ref (B + oPl j)), (1, .ref (B + oHo j1)), (2, .ref (B + oBk j2 r2))] dX3_oneRoom_3 (by decide) rfl ?_
  obtain ⟨b5, hk13, h⟩ := Option.bind_eq_some_iff.mp h
  refine x_sub [2, 3, 4, 1, 0] rfl ?_
  refine loop_run (step := stX3_oneRoom_5 σ j1 j j2 r2) (P := fun (a5 : Int32 × Int32) => X p l e R s m args below meth c 5 cy D B 0 0 Q 5 [(0, .ref (B + oPl j)), (1, .ref (B + oHo j1)), (2, .ref (B + oBk j2 r2)), (3, .int a5.1), (4, .int a5.2)] [] σ Y) (K := fun (b5 : Int32) => X p l e R s m args below meth c 5 cy D B 0 0 Q 67 [(3, .int b5)] [] σ Y) ?_ 5000 ((-1 : Int32), (0 : Int32)) b5 hk13 ?_
  · intro a5 r h hA1 hB2
    unfold stX3_oneRoom_5 at h
    refine x_iload C dX3_oneRoom_5 4 rfl ?_
    refine x_aload_n C dX3_oneRoom_7 rfl 1 rfl ?_
    refine x_get C (C1 := "HostelBeds$Hostel") (T := TX1) (N := 12) (ci := 3) inXg1 _ (c_Ho hj1) rfl 1 (by decide) (lw_g_mk tw_188 rfl) rfl dX3_oneRoom_8 ?_
    refine x_icmp_ge C (tgt := 67) dX3_oneRoom_11 (by decide) (fun hc3 => ?_) (fun hc3 => ?_)
    · rw [if_pos hc3] at h
      cases h
      refine x_sub [3] rfl ?_
      exact hB2 a5.1 rfl
    · rw [if_neg hc3] at h
      refine x_aload_n C dX3_oneRoom_14 rfl 0 rfl ?_
      refine x_get C (C1 := "HostelBeds$Plan") (T := TX3) (N := 8) (ci := 5) inXg3 _ (c_Pl hj) rfl 7 (by decide) (lw_g_mk tw_266 rfl) rfl dX3_oneRoom_15 ?_
      refine x_iload C dX3_oneRoom_18 4 rfl ?_
      obtain ⟨hg4, h⟩ := gd_some h
      refine x_iald C _ (c_Free hj) hg4 dX3_oneRoom_20 ?_
      refine x_aload_n C dX3_oneRoom_21 rfl 2 rfl ?_
      refine x_get C (C1 := "HostelBeds$Booking") (T := TX0) (N := 11) (ci := 2) inXg0 _ (c_Bk hj2 hr2) rfl 5 (by decide) (lw_g_mk tw_132 rfl) rfl dX3_oneRoom_22 ?_
      have hJ5 : ∀ (x1 : Int32) (r9 : (Int32 × Int32) ⊕ (Int32)), jX3_oneRoom_61 a5 x1 = some r9 → (∀ a2, r9 = .inl a2 → (fun (a5 : Int32 × Int32) => X p l e R s m args below meth c 5 cy D B 0 0 Q 5 [(0, .ref (B + oPl j)), (1, .ref (B + oHo j1)), (2, .ref (B + oBk j2 r2)), (3, .int a5.1), (4, .int a5.2)] [] σ Y) a2) → (∀ b2, r9 = .inr b2 → (fun (b5 : Int32) => X p l e R s m args below meth c 5 cy D B 0 0 Q 67 [(3, .int b5)] [] σ Y) b2) → X p l e R s m args below meth c 5 cy D B 0 0 Q 61 [(0, .ref (B + oPl j)), (1, .ref (B + oHo j1)), (2, .ref (B + oBk j2 r2)), (3, .int x1), (4, .int a5.2)] [] σ Y := by
        intro x1 r h hA1 hB2
        unfold jX3_oneRoom_61 at h
        refine x_iinc C (k := 4) [(4, .int (a5.2 + (1 : Int32))), (0, .ref (B + oPl j)), (1, .ref (B + oHo j1)), (2, .ref (B + oBk j2 r2)), (3, .int x1)] dX3_oneRoom_61 rfl rfl (by decide) rfl ?_
        refine x_goto C (tgt := 5) dX3_oneRoom_64 (by decide) ?_
        cases h
        refine x_sub [1, 2, 3, 4, 0] rfl ?_
        exact hA1 (x1, a5.2 + (1 : Int32)) rfl
      refine x_icmp_lt C (tgt := 61) dX3_oneRoom_25 (by decide) (fun hc6 => ?_) (fun hc6 => ?_)
      · rw [if_pos hc6] at h
        exact hJ5 a5.1 _ h hA1 hB2
      · rw [if_neg hc6] at h
        refine x_aload_n C dX3_oneRoom_28 rfl 1 rfl ?_
        refine x_get C (C1 := "HostelBeds$Hostel") (T := TX1) (N := 12) (ci := 3) inXg1 _ (c_Ho hj1) rfl 0 (by decide) (lw_g_mk tw_184 rfl) rfl dX3_oneRoom_29 ?_
        refine x_iload C dX3_oneRoom_32 4 rfl ?_
        refine x_aldq C _ 5 (C1 := "HostelBeds$Room") (c_Rms hj1) rfl hg4 rfl dX3_oneRoom_34 ?_
        refine x_aload_n C dX3_oneRoom_35 rfl 2 rfl ?_
        obtain ⟨q2, hk7, h⟩ := Option.bind_eq_some_iff.mp h
        refine x_callV C (As := [.ref (B + oBk j2 r2)]) (rest := []) (lw_g_mk tw_728 rfl) (lw_g_mk tw_729 rfl) (c_Rm hj1 (inb_lt hg4)) (C1 := "HostelBeds$Room") (T := TX4) (N := 5) (ci := 6) rfl (okX4_takesAll l cy D B ek j1 a5.2.toNatClampNeg j2 r2 σ Y hj1 (inb_lt hg4) hj2 hr2 _ hk7) rfl rfl (by rw [hR9]; decide) (lw_g_mk tw_730 rfl) (lw_g_mk tw_4 rfl) (by decide) rfl (lw_g_mk tw_727 rfl) rfl (Nat.le_of_ble_eq_true rfl) dX3_oneRoom_36 (by rw [hR9]; decide) ?_
        refine x_if_eq C (tgt := 61) dX3_oneRoom_39 (by decide) (fun hc8 => ?_) (fun hc8 => ?_)
        · rw [if_pos hc8] at h
          exact hJ5 a5.1 _ h hA1 hB2
        · rw [if_neg hc8] at h
          refine x_iload_n C dX3_oneRoom_42 rfl 3 rfl ?_
          refine x_iconst C (v := -1) dX3_oneRoom_43 (by decide) ?_
          have hJ9 : ∀ (r9 : (Int32 × Int32) ⊕ (Int32)), jX3_oneRoom_58 a5 = some r9 → (∀ a2, r9 = .inl a2 → (fun (a5 : Int32 × Int32) => X p l e R s m args below meth c 5 cy D B 0 0 Q 5 [(0, .ref (B + oPl j)), (1, .ref (B + oHo j1)), (2, .ref (B + oBk j2 r2)), (3, .int a5.1), (4, .int a5.2)] [] σ Y) a2) → (∀ b2, r9 = .inr b2 → (fun (b5 : Int32) => X p l e R s m args below meth c 5 cy D B 0 0 Q 67 [(3, .int b5)] [] σ Y) b2) → X p l e R s m args below meth c 5 cy D B 0 0 Q 58 [(0, .ref (B + oPl j)), (1, .ref (B + oHo j1)), (2, .ref (B + oBk j2 r2)), (4, .int a5.2)] [] σ Y := by
            intro r h hA1 hB2
            unfold jX3_oneRoom_58 at h
            refine x_iload C dX3_oneRoom_58 3 rfl ?_
            refine x_istore_n C [(3, .int a5.2), (0, .ref (B + oPl j)), (1, .ref (B + oHo j1)), (2, .ref (B + oBk j2 r2)), (4, .int a5.2)] dX3_oneRoom_60 rfl (by decide) rfl ?_
            refine x_sub [1, 2, 3, 0, 4] rfl ?_
            exact hJ5 a5.2 _ h hA1 hB2
          refine x_icmp_eq C (tgt := 58) dX3_oneRoom_44 (by decide) (fun hc10 => ?_) (fun hc10 => ?_)
          · rw [if_pos hc10] at h
            refine x_sub [0, 1, 2, 4] rfl ?_
            exact hJ9 _ h hA1 hB2
          · rw [if_neg hc10] at h
            refine x_aload_n C dX3_oneRoom_47 rfl 0 rfl ?_
            refine x_aload_n C dX3_oneRoom_48 rfl 1 rfl ?_
            refine x_iload C dX3_oneRoom_49 4 rfl ?_
            refine x_iload_n C dX3_oneRoom_51 rfl 3 rfl ?_
            obtain ⟨q3, hk11, h⟩ := Option.bind_eq_some_iff.mp h
            refine x_callV C (As := [.ref (B + oHo j1), .int a5.2, .int a5.1]) (rest := []) (lw_g_mk tw_732 rfl) (lw_g_mk tw_733 rfl) (c_Pl hj) (C1 := "HostelBeds$Plan") (T := TX3) (N := 8) (ci := 5) rfl (okX3_isBetter l cy D B ek j j1 a5.2 a5.1 σ Y hj hj1 _ hk11) rfl rfl (by rw [hR9]; decide) (lw_g_mk tw_734 rfl) (lw_g_mk tw_6 rfl) (by decide) rfl (lw_g_mk tw_731 rfl) rfl (Nat.le_of_ble_eq_true rfl) dX3_oneRoom_52 (by rw [hR9]; decide) ?_
            refine x_if_eq C (tgt := 61) dX3_oneRoom_55 (by decide) (fun hc12 => ?_) (fun hc12 => ?_)
            · rw [if_pos hc12] at h
              exact hJ5 a5.1 _ h hA1 hB2
            · rw [if_neg hc12] at h
              refine x_sub [0, 1, 2, 4] rfl ?_
              exact hJ9 _ h hA1 hB2
  · show X p l e R s m args below meth c 5 cy D B 0 0 Q 67 [(3, .int b5)] [] σ Y
    refine x_iload_n C dX3_oneRoom_67 rfl 0 rfl ?_
    refine x_iconst C (v := -1) dX3_oneRoom_68 (by decide) ?_
    refine x_icmp_ne C (tgt := 76) dX3_oneRoom_69 (by decide) (fun hc14 => ?_) (fun hc14 => ?_)
    · rw [if_pos hc14] at h
      refine x_iconst C (v := 1) dX3_oneRoom_76 (by decide) ?_
      refine x_iload_n C dX3_oneRoom_77 rfl 0 rfl ?_
      refine x_ishl C dX3_oneRoom_78 ?_
      cases h
      exact hret _ _ dX3_oneRoom_79 rfl
    · rw [if_neg hc14] at h
      refine x_iconst C (v := 0) dX3_oneRoom_72 (by decide) ?_
      refine x_goto C (tgt := 79) dX3_oneRoom_73 (by decide) ?_
      cases h
      exact hret _ _ dX3_oneRoom_79 rfl
def jX3_place_55 (j : Nat) (j1 : Nat) (p2 : Int32) (x3 : Int32) (σ4 : Mem) : Option (Mem) := (if ¬ x3 = 0 then ((fX3_giveBeds j j1 p2 x3 (wI σ4 53 j p2.toNatClampNeg x3)).bind fun q5 => (some (wI (wI q5.2 54 j p2.toNatClampNeg q5.1) 55 j 0 ((rI (wI q5.2 54 j p2.toNatClampNeg q5.1) 55 j 0) + (rI (wI q5.2 54 j p2.toNatClampNeg q5.1) 54 j p2.toNatClampNeg))))) else (some (wI (wI σ4 52 j p2.toNatClampNeg (3 : Int32)) 56 j 0 ((rI (wI σ4 52 j p2.toNatClampNeg (3 : Int32)) 56 j 0) + (((rI (wI σ4 52 j p2.toNatClampNeg (3 : Int32)) 25 j1 0) * (rI (wI σ4 52 j p2.toNatClampNeg (3 : Int32)) 44 j1 p2.toNatClampNeg)) * (rI (wI σ4 52 j p2.toNatClampNeg (3 : Int32)) 41 j1 p2.toNatClampNeg))))))
def fX3_place (j : Nat) (j1 : Nat) (p2 : Int32) (σ : Mem) : Option (Mem) := (gd (inb p2 17) ((fX3_countFree j j1 j1 p2.toNatClampNeg σ).bind fun q1 => ((fX3_oneRoom j j1 j1 p2.toNatClampNeg q1).bind fun q2 => (if ¬ q2 = 0 then (jX3_place_55 j j1 p2 q2 (wI q1 52 j p2.toNatClampNeg (1 : Int32))) else (if ¬ (rI (wI q1 52 j p2.toNatClampNeg (1 : Int32)) 47 j1 p2.toNatClampNeg) = 0 then (jX3_place_55 j j1 p2 q2 (wI q1 52 j p2.toNatClampNeg (1 : Int32))) else ((fX3_fewestRooms j j1 j1 p2.toNatClampNeg (wI q1 52 j p2.toNatClampNeg (1 : Int32))).bind fun q6 => (jX3_place_55 j j1 p2 q6 (wI (wI q1 52 j p2.toNatClampNeg (1 : Int32)) 52 j p2.toNatClampNeg (2 : Int32)))))))))
set_option maxHeartbeats 4000000 in
set_option maxRecDepth 100000 in
theorem okX3_place (l : Launch) (cy : Nat → ClassId) (D : va_G) (B : Nat) (ek : EK) (j : Nat) (j1 : Nat) (p2 : Int32) (σ : Mem) (Y : va_W) (hj : j < 2) (hj1 : j1 < 12) (res : Mem) (h : fX3_place j j1 p2 σ = some res) : CT l cy D B ek yX3_place cX3_place 5 none ({ frames := 3, cells := 0, slots := 0, locals := 74 } : Room) [.ref (B + oPl j), .ref (B + oHo j1), .int p2] σ Y none res Y := by
  refine met_X (own := "HostelBeds$Plan") (by decide) rfl (Nat.le_of_ble_eq_true rfl) ?_
  intro p e s m args below meth c C hrT hlk
  have hret : ∀ (pc9 : Nat) (lcs9 : List (Nat × Value)), decode cX3_place pc9 = .ok (.return_, 1) → X p l e ({ frames := 3, cells := 0, slots := 0, locals := 74 } : Room) s m args below meth c 5 cy D B 0 0 (MQ below (QR cy D B none res Y) args s 0 0 (aB B)) pc9 lcs9 [] res Y := fun _ _ hd => x_vret C hrT hlk hd
  generalize (MQ below (QR cy D B none res Y) args s 0 0 (aB B)) = Q at hret ⊢
  obtain ⟨R, hR9⟩ : ∃ R : Room, R = ({ frames := 3, cells := 0, slots := 0, locals := 74 } : Room) := ⟨_, rfl⟩
  rw [← hR9] at hret ⊢
  unfold fX3_place at h
  show X p l e R s m args below meth c 5 cy D B 0 0 Q 0 [(0, .ref (B + oPl j)), (1, .ref (B + oHo j1)), (2, .int p2)] [] σ Y
  refine x_aload_n C dX3_place_0 rfl 1 rfl ?_
  refine x_get C (C1 := "HostelBeds$Hostel") (T := TX1) (N := 12) (ci := 3) inXg1 _ (c_Ho hj1) rfl 3 (by decide) (lw_g_mk tw_194 rfl) rfl dX3_place_1 ?_
  refine x_iload_n C dX3_place_4 rfl 2 rfl ?_
  obtain ⟨hg1, h⟩ := gd_some h
  refine x_aldq C _ 6 (C1 := "HostelBeds$Booking") (c_Bks hj1) rfl hg1 rfl dX3_place_5 ?_
  refine x_astore_n C [(3, .ref (B + oBk j1 p2.toNatClampNeg)), (0, .ref (B + oPl j)), (1, .ref (B + oHo j1)), (2, .int p2)] dX3_place_6 rfl (by decide) rfl ?_
  refine x_aload_n C dX3_place_7 rfl 1 rfl ?_
  refine x_aload_n C dX3_place_8 rfl 2 rfl ?_
  refine x_aload_n C dX3_place_9 rfl 0 rfl ?_
  obtain ⟨q1, hk2, h⟩ := Option.bind_eq_some_iff.mp h
  refine x_callV C (As := [.ref (B + oHo j1), .ref (B + oBk j1 p2.toNatClampNeg)]) (rest := []) (lw_g_mk tw_716 rfl) (lw_g_mk tw_717 rfl) (c_Pl hj) (C1 := "HostelBeds$Plan") (T := TX3) (N := 8) (ci := 5) rfl (okX3_countFree l cy D B ek j j1 j1 p2.toNatClampNeg σ Y hj hj1 hj1 (inb_lt hg1) _ hk2) rfl rfl (by rw [hR9]; decide) (lw_g_mk tw_718 rfl) (lw_g_mk tw_6 rfl) (by decide) rfl (lw_g_mk tw_715 rfl) rfl (Nat.le_of_ble_eq_true rfl) dX3_place_10 (by rw [hR9]; decide) ?_
  refine x_aload_n C dX3_place_13 rfl 1 rfl ?_
  refine x_aload_n C dX3_place_14 rfl 2 rfl ?_
  refine x_aload_n C dX3_place_15 rfl 0 rfl ?_
  obtain ⟨q2, hk3, h⟩ := Option.bind_eq_some_iff.mp h
  refine x_callV C (As := [.ref (B + oHo j1), .ref (B + oBk j1 p2.toNatClampNeg)]) (rest := []) (lw_g_mk tw_724 rfl) (lw_g_mk tw_725 rfl) (c_Pl hj) (C1 := "HostelBeds$Plan") (T := TX3) (N := 8) (ci := 5) rfl (okX3_oneRoom l cy D B ek j j1 j1 p2.toNatClampNeg q1 Y hj hj1 hj1 (inb_lt hg1) _ hk3) rfl rfl (by rw [hR9]; decide) (lw_g_mk tw_726 rfl) (lw_g_mk tw_6 rfl) (by decide) rfl (lw_g_mk tw_723 rfl) rfl (Nat.le_of_ble_eq_true rfl) dX3_place_16 (by rw [hR9]; decide) ?_
  refine x_istore C [(4, .int q2), (3, .ref (B + oBk j1 p2.toNatClampNeg)), (0, .ref (B + oPl j)), (1, .ref (B + oHo j1)), (2, .int p2)] dX3_place_19 (by decide) rfl ?_
  refine x_aload_n C dX3_place_21 rfl 2 rfl ?_
  refine x_get C (C1 := "HostelBeds$Plan") (T := TX3) (N := 8) (ci := 5) inXg3 _ (c_Pl hj) rfl 2 (by decide) (lw_g_mk tw_256 rfl) rfl dX3_place_22 ?_
  refine x_iload_n C dX3_place_25 rfl 4 rfl ?_
  refine x_iconst C (v := 1) dX3_place_26 (by decide) ?_
  refine x_iast C _ (c_Out hj) hg1 dX3_place_27 (s_Out hj) ?_
  refine x_iload C dX3_place_28 0 rfl ?_
  have hJ6 : ∀ (x3 : Int32) (σ4 : Mem) (r9 : Mem), jX3_place_55 j j1 p2 x3 σ4 = some r9 → (∀ (pc9 : Nat) (lcs9 : List (Nat × Value)), decode cX3_place pc9 = .ok (.return_, 1) → X p l e R s m args below meth c 5 cy D B 0 0 Q pc9 lcs9 [] r9 Y) → X p l e R s m args below meth c 5 cy D B 0 0 Q 55 [(0, .ref (B + oPl j)), (1, .ref (B + oHo j1)), (2, .int p2), (3, .ref (B + oBk j1 p2.toNatClampNeg)), (4, .int x3)] [] σ4 Y := by
    intro x3 σ4 res9 h hret
    unfold jX3_place_55 at h
    refine x_iload C dX3_place_55 4 rfl ?_
    refine x_if_ne C (tgt := 91) dX3_place_57 (by decide) (fun hc4 => ?_) (fun hc4 => ?_)
    · rw [if_pos hc4] at h
      refine x_aload_n C dX3_place_91 rfl 0 rfl ?_
      refine x_get C (C1 := "HostelBeds$Plan") (T := TX3) (N := 8) (ci := 5) inXg3 _ (c_Pl hj) rfl 3 (by decide) (lw_g_mk tw_258 rfl) rfl dX3_place_92 ?_
      refine x_iload_n C dX3_place_95 rfl 2 rfl ?_
      refine x_iload C dX3_place_96 4 rfl ?_
      refine x_iast C _ (c_Rb hj) hg1 dX3_place_98 (s_Rb hj) ?_
      refine x_aload_n C dX3_place_99 rfl 0 rfl ?_
      refine x_get C (C1 := "HostelBeds$Plan") (T := TX3) (N := 8) (ci := 5) inXg3 _ (c_Pl hj) rfl 4 (by decide) (lw_g_mk tw_260 rfl) rfl dX3_place_100 ?_
      refine x_iload_n C dX3_place_103 rfl 2 rfl ?_
      refine x_aload_n C dX3_place_104 rfl 0 rfl ?_
      refine x_aload_n C dX3_place_105 rfl 1 rfl ?_
      refine x_iload_n C dX3_place_106 rfl 2 rfl ?_
      refine x_iload C dX3_place_107 4 rfl ?_
      obtain ⟨q5, hk5, h⟩ := Option.bind_eq_some_iff.mp h
      refine x_callV C (As := [.ref (B + oHo j1), .int p2, .int x3]) (rest := [.int p2, .ref (B + oPaid j)]) (lw_g_mk tw_753 rfl) (lw_g_mk tw_754 rfl) (c_Pl hj) (C1 := "HostelBeds$Plan") (T := TX3) (N := 8) (ci := 5) rfl (okX3_giveBeds l cy D B ek j j1 p2 x3 (wI σ4 53 j p2.toNatClampNeg x3) Y hj hj1 _ hk5) rfl rfl (by rw [hR9]; decide) (lw_g_mk tw_755 rfl) (lw_g_mk tw_6 rfl) (by decide) rfl (lw_g_mk tw_752 rfl) rfl (Nat.le_of_ble_eq_true rfl) dX3_place_109 (by rw [hR9]; decide) ?_
      refine x_iast C _ (c_Paid hj) hg1 dX3_place_112 (s_Paid hj) ?_
      refine x_aload_n C dX3_place_113 rfl 0 rfl ?_
      refine x_dup C dX3_place_114 rfl ?_
      refine x_get C (C1 := "HostelBeds$Plan") (T := TX3) (N := 8) (ci := 5) inXg3 _ (c_Pl hj) rfl 5 (by decide) (lw_g_mk tw_262 rfl) rfl dX3_place_115 ?_
      refine x_aload_n C dX3_place_118 rfl 0 rfl ?_
      refine x_get C (C1 := "HostelBeds$Plan") (T := TX3) (N := 8) (ci := 5) inXg3 _ (c_Pl hj) rfl 4 (by decide) (lw_g_mk tw_260 rfl) rfl dX3_place_119 ?_
      refine x_iload_n C dX3_place_122 rfl 2 rfl ?_
      refine x_iald C _ (c_Paid hj) hg1 dX3_place_123 ?_
      refine x_iadd C dX3_place_124 ?_
      refine x_put C (C1 := "HostelBeds$Plan") (T := TX3) (N := 8) (ci := 5) inXg3 tyX3 tyX3_ok nmX3 _ (c_Pl hj) rfl 5 (by decide) (lw_g_mk tw_262 rfl) rfl rfl rfl rfl (Nat.le_of_ble_eq_true rfl) dX3_place_125 (s_Pl_earned hj) ?_
      cases h
      exact hret _ _ dX3_place_128
    · rw [if_neg hc4] at h
      refine x_aload_n C dX3_place_60 rfl 0 rfl ?_
      refine x_get C (C1 := "HostelBeds$Plan") (T := TX3) (N := 8) (ci := 5) inXg3 _ (c_Pl hj) rfl 2 (by decide) (lw_g_mk tw_256 rfl) rfl dX3_place_61 ?_
      refine x_iload_n C dX3_place_64 rfl 2 rfl ?_
      refine x_iconst C (v := 3) dX3_place_65 (by decide) ?_
      refine x_iast C _ (c_Out hj) hg1 dX3_place_66 (s_Out hj) ?_
      refine x_aload_n C dX3_place_67 rfl 0 rfl ?_
      refine x_dup C dX3_place_68 rfl ?_
      refine x_get C (C1 := "HostelBeds$Plan") (T := TX3) (N := 8) (ci := 5) inXg3 _ (c_Pl hj) rfl 6 (by decide) (lw_g_mk tw_264 rfl) rfl dX3_place_69 ?_
      refine x_aload_n C dX3_place_72 rfl 1 rfl ?_
      refine x_get C (C1 := "HostelBeds$Hostel") (T := TX1) (N := 12) (ci := 3) inXg1 _ (c_Ho hj1) rfl 9 (by decide) (lw_g_mk tw_212 rfl) rfl dX3_place_73 ?_
      refine x_aload_n C dX3_place_76 rfl 3 rfl ?_
      refine x_get C (C1 := "HostelBeds$Booking") (T := TX0) (N := 11) (ci := 2) inXg0 _ (c_Bk hj1 (inb_lt hg1)) rfl 5 (by decide) (lw_g_mk tw_132 rfl) rfl dX3_place_77 ?_
      refine x_imul C dX3_place_80 ?_
      refine x_aload_n C dX3_place_81 rfl 3 rfl ?_
      refine x_get C (C1 := "HostelBeds$Booking") (T := TX0) (N := 11) (ci := 2) inXg0 _ (c_Bk hj1 (inb_lt hg1)) rfl 2 (by decide) (lw_g_mk tw_120 rfl) rfl dX3_place_82 ?_
      refine x_imul C dX3_place_85 ?_
      refine x_iadd C dX3_place_86 ?_
      refine x_put C (C1 := "HostelBeds$Plan") (T := TX3) (N := 8) (ci := 5) inXg3 tyX3 tyX3_ok nmX3 _ (c_Pl hj) rfl 6 (by decide) (lw_g_mk tw_264 rfl) rfl rfl rfl rfl (Nat.le_of_ble_eq_true rfl) dX3_place_87 (s_Pl_spent hj) ?_
      cases h
      exact hret _ _ dX3_place_90
  refine x_if_ne C (tgt := 55) dX3_place_30 (by decide) (fun hc7 => ?_) (fun hc7 => ?_)
  · rw [if_pos hc7] at h
    refine x_sub [2, 3, 4, 1, 0] rfl ?_
    exact hJ6 q2 (wI q1 52 j p2.toNatClampNeg (1 : Int32)) _ h hret
  · rw [if_neg hc7] at h
    refine x_aload_n C dX3_place_33 rfl 1 rfl ?_
    refine x_get C (C1 := "HostelBeds$Booking") (T := TX0) (N := 11) (ci := 2) inXg0 _ (c_Bk hj1 (inb_lt hg1)) rfl 8 (by decide) (lw_g_mk tw_140 rfl) rfl dX3_place_34 ?_
    refine x_if_ne C (tgt := 55) dX3_place_37 (by decide) (fun hc8 => ?_) (fun hc8 => ?_)
    · rw [if_pos hc8] at h
      refine x_sub [2, 3, 4, 1, 0] rfl ?_
      exact hJ6 q2 (wI q1 52 j p2.toNatClampNeg (1 : Int32)) _ h hret
    · rw [if_neg hc8] at h
      refine x_aload_n C dX3_place_40 rfl 2 rfl ?_
      refine x_aload_n C dX3_place_41 rfl 3 rfl ?_
      refine x_aload_n C dX3_place_42 rfl 1 rfl ?_
      obtain ⟨q6, hk9, h⟩ := Option.bind_eq_some_iff.mp h
      refine x_callV C (As := [.ref (B + oHo j1), .ref (B + oBk j1 p2.toNatClampNeg)]) (rest := []) (lw_g_mk tw_736 rfl) (lw_g_mk tw_737 rfl) (c_Pl hj) (C1 := "HostelBeds$Plan") (T := TX3) (N := 8) (ci := 5) rfl (okX3_fewestRooms l cy D B ek j j1 j1 p2.toNatClampNeg (wI q1 52 j p2.toNatClampNeg (1 : Int32)) Y hj hj1 hj1 (inb_lt hg1) _ hk9) rfl rfl (by rw [hR9]; decide) (lw_g_mk tw_738 rfl) (lw_g_mk tw_6 rfl) (by decide) rfl (lw_g_mk tw_735 rfl) rfl (Nat.le_of_ble_eq_true rfl) dX3_place_43 (by rw [hR9]; decide) ?_
      refine x_istore C [(4, .int q6), (3, .ref (B + oBk j1 p2.toNatClampNeg)), (0, .ref (B + oPl j)), (1, .ref (B + oHo j1)), (2, .int p2)] dX3_place_46 (by decide) rfl ?_
      refine x_aload_n C dX3_place_48 rfl 2 rfl ?_
      refine x_get C (C1 := "HostelBeds$Plan") (T := TX3) (N := 8) (ci := 5) inXg3 _ (c_Pl hj) rfl 2 (by decide) (lw_g_mk tw_256 rfl) rfl dX3_place_49 ?_
      refine x_iload_n C dX3_place_52 rfl 4 rfl ?_
      refine x_iconst C (v := 2) dX3_place_53 (by decide) ?_
      refine x_iast C _ (c_Out hj) hg1 dX3_place_54 (s_Out hj) ?_
      refine x_sub [2, 3, 4, 1, 0] rfl ?_
      exact hJ6 q6 (wI (wI q1 52 j p2.toNatClampNeg (1 : Int32)) 52 j p2.toNatClampNeg (2 : Int32)) _ h hret
def jX3_make_62 (a14 : Int32 × Mem) (σ2 : Mem) : Option ((Int32 × Mem) ⊕ (Mem)) := (some (.inl (a14.1 + (1 : Int32), σ2)))
def stX3_make_14 (j1 : Nat) (a6 : Int32 × Mem) (j : Nat) (a14 : Int32 × Mem) : Option ((Int32 × Mem) ⊕ (Mem)) := (if (rI a14.2 22 j1 0) ≤ a14.1 then (some (.inr a14.2)) else (gd (inb a14.1 17) (if ¬ (rI a14.2 40 j1 a14.1.toNatClampNeg) = a6.1 then (jX3_make_62 a14 a14.2) else (if ¬ (rI a14.2 49 j1 a14.1.toNatClampNeg) = (1 : Int32) then (jX3_make_62 a14 a14.2) else (if ¬ (rI a14.2 48 j1 a14.1.toNatClampNeg) = 0 then (jX3_make_62 a14 a14.2) else ((fX3_place j j1 a14.1 a14.2).bind fun q3 => (jX3_make_62 a14 q3)))))))
def stX3_make_6 (j1 : Nat) (j : Nat) (a6 : Int32 × Mem) : Option ((Int32 × Mem) ⊕ (Mem)) := (if (30 : Int32) ≤ a6.1 then (some (.inr a6.2)) else ((loop (stX3_make_14 j1 a6 j) 5000 ((0 : Int32), a6.2)).bind fun b14 => (some (.inl (a6.1 + (1 : Int32), b14)))))
def fX3_make (j : Nat) (j1 : Nat) (σ : Mem) : Option (Mem) := ((fX3_clear j σ).bind fun q1 => ((loop (stX3_make_6 j1 j) 5000 ((0 : Int32), q1)).bind fun b6 => (some b6)))
set_option maxHeartbeats 4000000 in
set_option maxRecDepth 100000 in
theorem okX3_make (l : Launch) (cy : Nat → ClassId) (D : va_G) (B : Nat) (ek : EK) (j : Nat) (j1 : Nat) (σ : Mem) (Y : va_W) (hj : j < 2) (hj1 : j1 < 12) (res : Mem) (h : fX3_make j j1 σ = some res) : CT l cy D B ek yX3_make cX3_make 5 none ({ frames := 4, cells := 0, slots := 0, locals := 98 } : Room) [.ref (B + oPl j), .ref (B + oHo j1)] σ Y none res Y := by
  refine met_X (own := "HostelBeds$Plan") (by decide) rfl (Nat.le_of_ble_eq_true rfl) ?_
  intro p e s m args below meth c C hrT hlk
  have hret : ∀ (pc9 : Nat) (lcs9 : List (Nat × Value)), decode cX3_make pc9 = .ok (.return_, 1) → X p l e ({ frames := 4, cells := 0, slots := 0, locals := 98 } : Room) s m args below meth c 5 cy D B 0 0 (MQ below (QR cy D B none res Y) args s 0 0 (aB B)) pc9 lcs9 [] res Y := fun _ _ hd => x_vret C hrT hlk hd
  generalize (MQ below (QR cy D B none res Y) args s 0 0 (aB B)) = Q at hret ⊢
  obtain ⟨R, hR9⟩ : ∃ R : Room, R = ({ frames := 4, cells := 0, slots := 0, locals := 98 } : Room) := ⟨_, rfl⟩
  rw [← hR9] at hret ⊢
  unfold fX3_make at h
  show X p l e R s m args below meth c 5 cy D B 0 0 Q 0 [(0, .ref (B + oPl j)), (1, .ref (B + oHo j1))] [] σ Y
  refine x_aload_n C dX3_make_0 rfl 0 rfl ?_
  obtain ⟨q1, hk1, h⟩ := Option.bind_eq_some_iff.mp h
  refine x_callV C (As := []) (rest := []) (lw_g_mk tw_708 rfl) (lw_g_mk tw_709 rfl) (c_Pl hj) (C1 := "HostelBeds$Plan") (T := TX3) (N := 8) (ci := 5) rfl (okX3_clear l cy D B ek j σ Y hj _ hk1) rfl rfl (by rw [hR9]; decide) (lw_g_mk tw_710 rfl) (lw_g_mk tw_6 rfl) (by decide) rfl (lw_g_mk tw_707 rfl) rfl (Nat.le_of_ble_eq_true rfl) dX3_make_1 (by rw [hR9]; decide) ?_
  refine x_iconst C (v := 0) dX3_make_4 (by decide) ?_
  refine x_istore_n C [(2, .int (0 : Int32)), (0, .ref (B + oPl j)), (1, .ref (B + oHo j1))] dX3_make_5 rfl (by decide) rfl ?_
  obtain ⟨b6, hk15, h⟩ := Option.bind_eq_some_iff.mp h
  refine x_sub [1, 2, 0] rfl ?_
  refine loop_run (step := stX3_make_6 j1 j) (P := fun (a6 : Int32 × Mem) => X p l e R s m args below meth c 5 cy D B 0 0 Q 6 [(0, .ref (B + oPl j)), (1, .ref (B + oHo j1)), (2, .int a6.1)] [] a6.2 Y) (K := fun (b6 : Mem) => X p l e R s m args below meth c 5 cy D B 0 0 Q 74 [] [] b6 Y) ?_ 5000 ((0 : Int32), q1) b6 hk15 ?_
  · intro a6 r h hA2 hB3
    unfold stX3_make_6 at h
    refine x_iload_n C dX3_make_6 rfl 2 rfl ?_
    refine x_bipush C (v := 30) dX3_make_7 (by decide) ?_
    refine x_icmp_ge C (tgt := 74) dX3_make_9 (by decide) (fun hc4 => ?_) (fun hc4 => ?_)
    · rw [if_pos hc4] at h
      cases h
      refine x_sub [] rfl ?_
      exact hB3 a6.2 rfl
    · rw [if_neg hc4] at h
      refine x_iconst C (v := 0) dX3_make_12 (by decide) ?_
      refine x_istore_n C [(3, .int (0 : Int32)), (0, .ref (B + oPl j)), (1, .ref (B + oHo j1)), (2, .int a6.1)] dX3_make_13 rfl (by decide) rfl ?_
      obtain ⟨b14, hk14, h⟩ := Option.bind_eq_some_iff.mp h
      refine x_sub [1, 2, 3, 0] rfl ?_
      refine loop_run (step := stX3_make_14 j1 a6 j) (P := fun (a14 : Int32 × Mem) => X p l e R s m args below meth c 5 cy D B 0 0 Q 14 [(0, .ref (B + oPl j)), (1, .ref (B + oHo j1)), (2, .int a6.1), (3, .int a14.1)] [] a14.2 Y) (K := fun (b14 : Mem) => X p l e R s m args below meth c 5 cy D B 0 0 Q 68 [(0, .ref (B + oPl j)), (1, .ref (B + oHo j1)), (2, .int a6.1)] [] b14 Y) ?_ 5000 ((0 : Int32), a6.2) b14 hk14 ?_
      · intro a14 r h hA5 hB6
        unfold stX3_make_14 at h
        refine x_iload_n C dX3_make_14 rfl 3 rfl ?_
        refine x_aload_n C dX3_make_15 rfl 1 rfl ?_
        refine x_get C (C1 := "HostelBeds$Hostel") (T := TX1) (N := 12) (ci := 3) inXg1 _ (c_Ho hj1) rfl 4 (by decide) (lw_g_mk tw_199 rfl) rfl dX3_make_16 ?_
        refine x_icmp_ge C (tgt := 68) dX3_make_19 (by decide) (fun hc7 => ?_) (fun hc7 => ?_)
        · rw [if_pos hc7] at h
          cases h
          refine x_sub [0, 1, 2] rfl ?_
          exact hB6 a14.2 rfl
        · rw [if_neg hc7] at h
          refine x_aload_n C dX3_make_22 rfl 1 rfl ?_
          refine x_get C (C1 := "HostelBeds$Hostel") (T := TX1) (N := 12) (ci := 3) inXg1 _ (c_Ho hj1) rfl 3 (by decide) (lw_g_mk tw_194 rfl) rfl dX3_make_23 ?_
          refine x_iload_n C dX3_make_26 rfl 3 rfl ?_
          obtain ⟨hg8, h⟩ := gd_some h
          refine x_aldq C _ 6 (C1 := "HostelBeds$Booking") (c_Bks hj1) rfl hg8 rfl dX3_make_27 ?_
          refine x_astore C [(4, .ref (B + oBk j1 a14.1.toNatClampNeg)), (0, .ref (B + oPl j)), (1, .ref (B + oHo j1)), (2, .int a6.1), (3, .int a14.1)] dX3_make_28 (by decide) rfl ?_
          refine x_aload C dX3_make_30 0 rfl ?_
          refine x_get C (C1 := "HostelBeds$Booking") (T := TX0) (N := 11) (ci := 2) inXg0 _ (c_Bk hj1 (inb_lt hg8)) rfl 1 (by decide) (lw_g_mk tw_115 rfl) rfl dX3_make_32 ?_
          refine x_iload_n C dX3_make_35 rfl 3 rfl ?_
          have hJ9 : ∀ (σ2 : Mem) (r9 : (Int32 × Mem) ⊕ (Mem)), jX3_make_62 a14 σ2 = some r9 → (∀ a2, r9 = .inl a2 → (fun (a14 : Int32 × Mem) => X p l e R s m args below meth c 5 cy D B 0 0 Q 14 [(0, .ref (B + oPl j)), (1, .ref (B + oHo j1)), (2, .int a6.1), (3, .int a14.1)] [] a14.2 Y) a2) → (∀ b2, r9 = .inr b2 → (fun (b14 : Mem) => X p l e R s m args below meth c 5 cy D B 0 0 Q 68 [(0, .ref (B + oPl j)), (1, .ref (B + oHo j1)), (2, .int a6.1)] [] b14 Y) b2) → X p l e R s m args below meth c 5 cy D B 0 0 Q 62 [(0, .ref (B + oPl j)), (1, .ref (B + oHo j1)), (2, .int a6.1), (3, .int a14.1)] [] σ2 Y := by
            intro σ2 r h hA5 hB6
            unfold jX3_make_62 at h
            refine x_iinc C (k := 3) [(3, .int (a14.1 + (1 : Int32))), (0, .ref (B + oPl j)), (1, .ref (B + oHo j1)), (2, .int a6.1)] dX3_make_62 rfl rfl (by decide) rfl ?_
            refine x_goto C (tgt := 14) dX3_make_65 (by decide) ?_
            cases h
            refine x_sub [1, 2, 3, 0] rfl ?_
            exact hA5 (a14.1 + (1 : Int32), σ2) rfl
          refine x_icmp_ne C (tgt := 62) dX3_make_36 (by decide) (fun hc10 => ?_) (fun hc10 => ?_)
          · rw [if_pos hc10] at h
            refine x_sub [1, 2, 3, 4] rfl ?_
            exact hJ9 a14.2 _ h hA5 hB6
          · rw [if_neg hc10] at h
            refine x_aload C dX3_make_39 0 rfl ?_
            refine x_get C (C1 := "HostelBeds$Booking") (T := TX0) (N := 11) (ci := 2) inXg0 _ (c_Bk hj1 (inb_lt hg8)) rfl 10 (by decide) (lw_g_mk tw_148 rfl) rfl dX3_make_41 ?_
            refine x_iconst C (v := 1) dX3_make_44 (by decide) ?_
            refine x_icmp_ne C (tgt := 62) dX3_make_45 (by decide) (fun hc11 => ?_) (fun hc11 => ?_)
            · rw [if_pos hc11] at h
              refine x_sub [1, 2, 3, 4] rfl ?_
              exact hJ9 a14.2 _ h hA5 hB6
            · rw [if_neg hc11] at h
              refine x_aload C dX3_make_48 0 rfl ?_
              refine x_get C (C1 := "HostelBeds$Booking") (T := TX0) (N := 11) (ci := 2) inXg0 _ (c_Bk hj1 (inb_lt hg8)) rfl 9 (by decide) (lw_g_mk tw_144 rfl) rfl dX3_make_50 ?_
              refine x_if_ne C (tgt := 62) dX3_make_53 (by decide) (fun hc12 => ?_) (fun hc12 => ?_)
              · rw [if_pos hc12] at h
                refine x_sub [1, 2, 3, 4] rfl ?_
                exact hJ9 a14.2 _ h hA5 hB6
              · rw [if_neg hc12] at h
                refine x_aload_n C dX3_make_56 rfl 1 rfl ?_
                refine x_aload_n C dX3_make_57 rfl 2 rfl ?_
                refine x_iload_n C dX3_make_58 rfl 4 rfl ?_
                obtain ⟨q3, hk13, h⟩ := Option.bind_eq_some_iff.mp h
                refine x_callV C (As := [.ref (B + oHo j1), .int a14.1]) (rest := []) (lw_g_mk tw_712 rfl) (lw_g_mk tw_713 rfl) (c_Pl hj) (C1 := "HostelBeds$Plan") (T := TX3) (N := 8) (ci := 5) rfl (okX3_place l cy D B ek j j1 a14.1 a14.2 Y hj hj1 _ hk13) rfl rfl (by rw [hR9]; decide) (lw_g_mk tw_714 rfl) (lw_g_mk tw_6 rfl) (by decide) rfl (lw_g_mk tw_711 rfl) rfl (Nat.le_of_ble_eq_true rfl) dX3_make_59 (by rw [hR9]; decide) ?_
                refine x_sub [1, 2, 3, 4] rfl ?_
                exact hJ9 q3 _ h hA5 hB6
      · show X p l e R s m args below meth c 5 cy D B 0 0 Q 68 [(0, .ref (B + oPl j)), (1, .ref (B + oHo j1)), (2, .int a6.1)] [] b14 Y
        refine x_iinc C (k := 2) [(2, .int (a6.1 + (1 : Int32))), (0, .ref (B + oPl j)), (1, .ref (B + oHo j1))] dX3_make_68 rfl rfl (by decide) rfl ?_
        refine x_goto C (tgt := 6) dX3_make_71 (by decide) ?_
        cases h
        refine x_sub [1, 2, 0] rfl ?_
        exact hA2 (a6.1 + (1 : Int32), b14) rfl
  · show X p l e R s m args below meth c 5 cy D B 0 0 Q 74 [] [] b6 Y
    cases h
    exact hret _ _ dX3_make_74
def jX3_hasBeds_20 : Option (Int32) := (some ((1 : Int32)))
def fX3_hasBeds (j : Nat) (p1 : Int32) (σ : Mem) : Option (Int32) := (gd (inb p1 17) (if (rI σ 52 j p1.toNatClampNeg) = (1 : Int32) then (jX3_hasBeds_20) else (if ¬ (rI σ 52 j p1.toNatClampNeg) = (2 : Int32) then (some ((0 : Int32))) else (jX3_hasBeds_20))))
set_option maxHeartbeats 4000000 in
set_option maxRecDepth 100000 in
theorem okX3_hasBeds (l : Launch) (cy : Nat → ClassId) (D : va_G) (B : Nat) (ek : EK) (j : Nat) (p1 : Int32) (σ : Mem) (Y : va_W) (hj : j < 2) (res : Int32) (h : fX3_hasBeds j p1 σ = some res) : CT l cy D B ek yX3_hasBeds cX3_hasBeds 2 (some .boolean) ({ frames := 0, cells := 0, slots := 0, locals := 0 } : Room) [.ref (B + oPl j), .int p1] σ Y (some (.int res)) σ Y := by
  refine met_X (own := "HostelBeds$Plan") (by decide) rfl (Nat.le_of_ble_eq_true rfl) ?_
  intro p e s m args below meth c C hrT hlk
  have hret : ∀ (pc9 : Nat) (lcs9 : List (Nat × Value)), decode cX3_hasBeds pc9 = .ok (.ireturn, 1) → narrow .boolean (.int res) = .int res → X p l e ({ frames := 0, cells := 0, slots := 0, locals := 0 } : Room) s m args below meth c 2 cy D B 0 0 (MQ below (QR cy D B (some (.int res)) σ Y) args s 0 0 (aB B)) pc9 lcs9 [.int res] σ Y := fun _ _ hd hn => x_zret C hrT hlk hn hd
  generalize (MQ below (QR cy D B (some (.int res)) σ Y) args s 0 0 (aB B)) = Q at hret ⊢
  obtain ⟨R, hR9⟩ : ∃ R : Room, R = ({ frames := 0, cells := 0, slots := 0, locals := 0 } : Room) := ⟨_, rfl⟩
  rw [← hR9] at hret ⊢
  unfold fX3_hasBeds at h
  show X p l e R s m args below meth c 2 cy D B 0 0 Q 0 [(0, .ref (B + oPl j)), (1, .int p1)] [] σ Y
  refine x_aload_n C dX3_hasBeds_0 rfl 0 rfl ?_
  refine x_get C (C1 := "HostelBeds$Plan") (T := TX3) (N := 8) (ci := 5) inXg3 _ (c_Pl hj) rfl 2 (by decide) (lw_g_mk tw_256 rfl) rfl dX3_hasBeds_1 ?_
  refine x_iload_n C dX3_hasBeds_4 rfl 1 rfl ?_
  obtain ⟨hg1, h⟩ := gd_some h
  refine x_iald C _ (c_Out hj) hg1 dX3_hasBeds_5 ?_
  refine x_iconst C (v := 1) dX3_hasBeds_6 (by decide) ?_
  have hJ2 : ∀ (r9 : Int32), jX3_hasBeds_20 = some r9 → (∀ (pc9 : Nat) (lcs9 : List (Nat × Value)), decode cX3_hasBeds pc9 = .ok (.ireturn, 1) → narrow .boolean (.int r9) = .int r9 → X p l e R s m args below meth c 2 cy D B 0 0 Q pc9 lcs9 [.int r9] σ Y) → X p l e R s m args below meth c 2 cy D B 0 0 Q 20 [] [] σ Y := by
    intro res9 h hret
    unfold jX3_hasBeds_20 at h
    refine x_iconst C (v := 1) dX3_hasBeds_20 (by decide) ?_
    refine x_goto C (tgt := 25) dX3_hasBeds_21 (by decide) ?_
    cases h
    exact hret _ _ dX3_hasBeds_25 (nar_Z (Or.inr rfl))
  refine x_icmp_eq C (tgt := 20) dX3_hasBeds_7 (by decide) (fun hc3 => ?_) (fun hc3 => ?_)
  · rw [if_pos hc3] at h
    refine x_sub [] rfl ?_
    exact hJ2 _ h hret
  · rw [if_neg hc3] at h
    refine x_aload_n C dX3_hasBeds_10 rfl 0 rfl ?_
    refine x_get C (C1 := "HostelBeds$Plan") (T := TX3) (N := 8) (ci := 5) inXg3 _ (c_Pl hj) rfl 2 (by decide) (lw_g_mk tw_256 rfl) rfl dX3_hasBeds_11 ?_
    refine x_iload_n C dX3_hasBeds_14 rfl 1 rfl ?_
    refine x_iald C _ (c_Out hj) hg1 dX3_hasBeds_15 ?_
    refine x_iconst C (v := 2) dX3_hasBeds_16 (by decide) ?_
    refine x_icmp_ne C (tgt := 24) dX3_hasBeds_17 (by decide) (fun hc4 => ?_) (fun hc4 => ?_)
    · rw [if_pos hc4] at h
      refine x_iconst C (v := 0) dX3_hasBeds_24 (by decide) ?_
      cases h
      exact hret _ _ dX3_hasBeds_25 (nar_Z (Or.inl rfl))
    · rw [if_neg hc4] at h
      refine x_sub [] rfl ?_
      exact hJ2 _ h hret
def jX3_hasBed_35 (a3 : Int32) : Option ((Int32) ⊕ ((Unit) ⊕ (Int32))) := (some (.inl (a3 + (1 : Int32))))
def stX3_hasBed_3 (p2 : Int32) (j : Nat) (p1 : Int32) (σ : Mem) (p3 : Int32) (a3 : Int32) : Option ((Int32) ⊕ ((Unit) ⊕ (Int32))) := (if p2 ≤ a3 then (some (.inr (.inl ()))) else ((fX3_hasBeds j p1 σ).bind fun q1 => (if q1 = 0 then (jX3_hasBed_35 a3) else (gd (inb ((p1 * (12 : Int32)) + a3) 204) (if ¬ (rI σ 51 j ((p1 * (12 : Int32)) + a3).toNatClampNeg) = p3 then (jX3_hasBed_35 a3) else (some (.inr (.inr ((1 : Int32))))))))))
def fX3_hasBed (j : Nat) (p1 : Int32) (p2 : Int32) (p3 : Int32) (σ : Mem) : Option (Int32) := ((loop (stX3_hasBed_3 p2 j p1 σ p3) 5000 ((0 : Int32))).bind fun b3 => Sum.elim (fun z3 => (some ((0 : Int32)))) (fun w3 => (some w3)) b3)
set_option maxHeartbeats 4000000 in
set_option maxRecDepth 100000 in
theorem okX3_hasBed (l : Launch) (cy : Nat → ClassId) (D : va_G) (B : Nat) (ek : EK) (j : Nat) (p1 : Int32) (p2 : Int32) (p3 : Int32) (σ : Mem) (Y : va_W) (hj : j < 2) (res : Int32) (h : fX3_hasBed j p1 p2 p3 σ = some res) : CT l cy D B ek yX3_hasBed cX3_hasBed 5 (some .boolean) ({ frames := 1, cells := 0, slots := 0, locals := 21 } : Room) [.ref (B + oPl j), .int p1, .int p2, .int p3] σ Y (some (.int res)) σ Y := by
  refine met_X (own := "HostelBeds$Plan") (by decide) rfl (Nat.le_of_ble_eq_true rfl) ?_
  intro p e s m args below meth c C hrT hlk
  have hret : ∀ (pc9 : Nat) (lcs9 : List (Nat × Value)), decode cX3_hasBed pc9 = .ok (.ireturn, 1) → narrow .boolean (.int res) = .int res → X p l e ({ frames := 1, cells := 0, slots := 0, locals := 21 } : Room) s m args below meth c 5 cy D B 0 0 (MQ below (QR cy D B (some (.int res)) σ Y) args s 0 0 (aB B)) pc9 lcs9 [.int res] σ Y := fun _ _ hd hn => x_zret C hrT hlk hn hd
  generalize (MQ below (QR cy D B (some (.int res)) σ Y) args s 0 0 (aB B)) = Q at hret ⊢
  obtain ⟨R, hR9⟩ : ∃ R : Room, R = ({ frames := 1, cells := 0, slots := 0, locals := 21 } : Room) := ⟨_, rfl⟩
  rw [← hR9] at hret ⊢
  unfold fX3_hasBed at h
  show X p l e R s m args below meth c 5 cy D B 0 0 Q 0 [(0, .ref (B + oPl j)), (1, .int p1), (2, .int p2), (3, .int p3)] [] σ Y
  refine x_iconst C (v := 0) dX3_hasBed_0 (by decide) ?_
  refine x_istore C [(4, .int (0 : Int32)), (0, .ref (B + oPl j)), (1, .int p1), (2, .int p2), (3, .int p3)] dX3_hasBed_1 (by decide) rfl ?_
  obtain ⟨b3, hk9, h⟩ := Option.bind_eq_some_iff.mp h
  refine x_sub [1, 2, 3, 4, 0] rfl ?_
  refine loop_run (step := stX3_hasBed_3 p2 j p1 σ p3) (P := fun (a3 : Int32) => X p l e R s m args below meth c 5 cy D B 0 0 Q 3 [(0, .ref (B + oPl j)), (1, .int p1), (2, .int p2), (3, .int p3), (4, .int a3)] [] σ Y) (K := fun (b3 : (Unit) ⊕ (Int32)) => Sum.elim (fun z3 => X p l e R s m args below meth c 5 cy D B 0 0 Q 41 [] [] σ Y) (fun w3 => ∀ (pc9 : Nat) (lcs9 : List (Nat × Value)), decode cX3_hasBed pc9 = .ok (.ireturn, 1) → narrow .boolean (.int w3) = .int w3 → X p l e R s m args below meth c 5 cy D B 0 0 Q pc9 lcs9 [.int w3] σ Y) b3) ?_ 5000 ((0 : Int32)) b3 hk9 ?_
  · intro a3 r h hA1 hB2
    unfold stX3_hasBed_3 at h
    refine x_iload C dX3_hasBed_3 4 rfl ?_
    refine x_iload_n C dX3_hasBed_5 rfl 2 rfl ?_
    refine x_icmp_ge C (tgt := 41) dX3_hasBed_6 (by decide) (fun hc3 => ?_) (fun hc3 => ?_)
    · rw [if_pos hc3] at h
      cases h
      refine x_sub [] rfl ?_
      exact hB2 (.inl ()) rfl
    · rw [if_neg hc3] at h
      refine x_aload_n C dX3_hasBed_9 rfl 0 rfl ?_
      refine x_iload_n C dX3_hasBed_10 rfl 1 rfl ?_
      obtain ⟨q1, hk4, h⟩ := Option.bind_eq_some_iff.mp h
      refine x_callV C (As := [.int p1]) (rest := []) (lw_g_mk tw_1036 rfl) (lw_g_mk tw_1037 rfl) (c_Pl hj) (C1 := "HostelBeds$Plan") (T := TX3) (N := 8) (ci := 5) rfl (okX3_hasBeds l cy D B ek j p1 σ Y hj _ hk4) rfl rfl (by rw [hR9]; decide) (lw_g_mk tw_1038 rfl) (lw_g_mk tw_6 rfl) (by decide) rfl (lw_g_mk tw_1129 rfl) rfl (Nat.le_of_ble_eq_true rfl) dX3_hasBed_11 (by rw [hR9]; decide) ?_
      have hJ5 : ∀ (r9 : (Int32) ⊕ ((Unit) ⊕ (Int32))), jX3_hasBed_35 a3 = some r9 → (∀ a2, r9 = .inl a2 → (fun (a3 : Int32) => X p l e R s m args below meth c 5 cy D B 0 0 Q 3 [(0, .ref (B + oPl j)), (1, .int p1), (2, .int p2), (3, .int p3), (4, .int a3)] [] σ Y) a2) → (∀ b2, r9 = .inr b2 → (fun (b3 : (Unit) ⊕ (Int32)) => Sum.elim (fun z3 => X p l e R s m args below meth c 5 cy D B 0 0 Q 41 [] [] σ Y) (fun w3 => ∀ (pc9 : Nat) (lcs9 : List (Nat × Value)), decode cX3_hasBed pc9 = .ok (.ireturn, 1) → narrow .boolean (.int w3) = .int w3 → X p l e R s m args below meth c 5 cy D B 0 0 Q pc9 lcs9 [.int w3] σ Y) b3) b2) → X p l e R s m args below meth c 5 cy D B 0 0 Q 35 [(0, .ref (B + oPl j)), (1, .int p1), (2, .int p2), (3, .int p3), (4, .int a3)] [] σ Y := by
        intro r h hA1 hB2
        unfold jX3_hasBed_35 at h
        refine x_iinc C (k := 4) [(4, .int (a3 + (1 : Int32))), (0, .ref (B + oPl j)), (1, .int p1), (2, .int p2), (3, .int p3)] dX3_hasBed_35 rfl rfl (by decide) rfl ?_
        refine x_goto C (tgt := 3) dX3_hasBed_38 (by decide) ?_
        cases h
        refine x_sub [1, 2, 3, 4, 0] rfl ?_
        exact hA1 (a3 + (1 : Int32)) rfl
      refine x_if_eq C (tgt := 35) dX3_hasBed_14 (by decide) (fun hc6 => ?_) (fun hc6 => ?_)
      · rw [if_pos hc6] at h
        exact hJ5 _ h hA1 hB2
      · rw [if_neg hc6] at h
        refine x_aload_n C dX3_hasBed_17 rfl 0 rfl ?_
        refine x_get C (C1 := "HostelBeds$Plan") (T := TX3) (N := 8) (ci := 5) inXg3 _ (c_Pl hj) rfl 1 (by decide) (lw_g_mk tw_254 rfl) rfl dX3_hasBed_18 ?_
        refine x_iload_n C dX3_hasBed_21 rfl 1 rfl ?_
        refine x_bipush C (v := 12) dX3_hasBed_22 (by decide) ?_
        refine x_imul C dX3_hasBed_24 ?_
        refine x_iload C dX3_hasBed_25 4 rfl ?_
        refine x_iadd C dX3_hasBed_27 ?_
        obtain ⟨hg7, h⟩ := gd_some h
        refine x_iald C _ (c_Bop hj) hg7 dX3_hasBed_28 ?_
        refine x_iload_n C dX3_hasBed_29 rfl 3 rfl ?_
        refine x_icmp_ne C (tgt := 35) dX3_hasBed_30 (by decide) (fun hc8 => ?_) (fun hc8 => ?_)
        · rw [if_pos hc8] at h
          exact hJ5 _ h hA1 hB2
        · rw [if_neg hc8] at h
          refine x_iconst C (v := 1) dX3_hasBed_33 (by decide) ?_
          cases h
          exact hB2 (.inr ((1 : Int32))) rfl _ _ dX3_hasBed_34 (nar_Z (Or.inr rfl))
  · rcases b3 with z3 | w3
    · rw [Sum.elim_inl] at h
      show X p l e R s m args below meth c 5 cy D B 0 0 Q 41 [] [] σ Y
      refine x_iconst C (v := 0) dX3_hasBed_41 (by decide) ?_
      cases h
      exact hret _ _ dX3_hasBed_42 (nar_Z (Or.inl rfl))
    · rw [Sum.elim_inr] at h
      show ∀ (pc9 : Nat) (lcs9 : List (Nat × Value)), decode cX3_hasBed pc9 = .ok (.ireturn, 1) → narrow .boolean (.int w3) = .int w3 → X p l e R s m args below meth c 5 cy D B 0 0 Q pc9 lcs9 [.int w3] σ Y
      cases h
      exact hret
def fX3_isBusy (j : Nat) (p1 : Int32) (p2 : Int32) (σ : Mem) : Option (Int32) := (gd (inb p1 80) (if ¬ (((rI σ 50 j p1.toNatClampNeg) >>> (p2 &&& 31)) &&& (1 : Int32)) = (1 : Int32) then (some ((0 : Int32))) else (some ((1 : Int32)))))
set_option maxHeartbeats 4000000 in
set_option maxRecDepth 100000 in
theorem okX3_isBusy (l : Launch) (cy : Nat → ClassId) (D : va_G) (B : Nat) (ek : EK) (j : Nat) (p1 : Int32) (p2 : Int32) (σ : Mem) (Y : va_W) (hj : j < 2) (res : Int32) (h : fX3_isBusy j p1 p2 σ = some res) : CT l cy D B ek yX3_isBusy cX3_isBusy 3 (some .boolean) ({ frames := 0, cells := 0, slots := 0, locals := 0 } : Room) [.ref (B + oPl j), .int p1, .int p2] σ Y (some (.int res)) σ Y := by
  refine met_X (own := "HostelBeds$Plan") (by decide) rfl (Nat.le_of_ble_eq_true rfl) ?_
  intro p e s m args below meth c C hrT hlk
  have hret : ∀ (pc9 : Nat) (lcs9 : List (Nat × Value)), decode cX3_isBusy pc9 = .ok (.ireturn, 1) → narrow .boolean (.int res) = .int res → X p l e ({ frames := 0, cells := 0, slots := 0, locals := 0 } : Room) s m args below meth c 3 cy D B 0 0 (MQ below (QR cy D B (some (.int res)) σ Y) args s 0 0 (aB B)) pc9 lcs9 [.int res] σ Y := fun _ _ hd hn => x_zret C hrT hlk hn hd
  generalize (MQ below (QR cy D B (some (.int res)) σ Y) args s 0 0 (aB B)) = Q at hret ⊢
  obtain ⟨R, hR9⟩ : ∃ R : Room, R = ({ frames := 0, cells := 0, slots := 0, locals := 0 } : Room) := ⟨_, rfl⟩
  rw [← hR9] at hret ⊢
  unfold fX3_isBusy at h
  show X p l e R s m args below meth c 3 cy D B 0 0 Q 0 [(0, .ref (B + oPl j)), (1, .int p1), (2, .int p2)] [] σ Y
  refine x_aload_n C dX3_isBusy_0 rfl 0 rfl ?_
  refine x_get C (C1 := "HostelBeds$Plan") (T := TX3) (N := 8) (ci := 5) inXg3 _ (c_Pl hj) rfl 0 (by decide) (lw_g_mk tw_253 rfl) rfl dX3_isBusy_1 ?_
  refine x_iload_n C dX3_isBusy_4 rfl 1 rfl ?_
  obtain ⟨hg1, h⟩ := gd_some h
  refine x_iald C _ (c_Busy hj) hg1 dX3_isBusy_5 ?_
  refine x_iload_n C dX3_isBusy_6 rfl 2 rfl ?_
  refine x_ishr C dX3_isBusy_7 ?_
  refine x_iconst C (v := 1) dX3_isBusy_8 (by decide) ?_
  refine x_iand C dX3_isBusy_9 ?_
  refine x_iconst C (v := 1) dX3_isBusy_10 (by decide) ?_
  refine x_icmp_ne C (tgt := 18) dX3_isBusy_11 (by decide) (fun hc2 => ?_) (fun hc2 => ?_)
  · rw [if_pos hc2] at h
    refine x_iconst C (v := 0) dX3_isBusy_18 (by decide) ?_
    cases h
    exact hret _ _ dX3_isBusy_19 (nar_Z (Or.inl rfl))
  · rw [if_neg hc2] at h
    refine x_iconst C (v := 1) dX3_isBusy_14 (by decide) ?_
    refine x_goto C (tgt := 19) dX3_isBusy_15 (by decide) ?_
    cases h
    exact hret _ _ dX3_isBusy_19 (nar_Z (Or.inr rfl))
def jX3_taken_32 (a8 : Int32 × Int32) (x2 : Int32) : Option ((Int32 × Int32) ⊕ (Int32)) := (some (.inl (x2, a8.2 + (1 : Int32))))
def stX3_taken_8 (p1 : Int32) (j : Nat) (p2 : Int32) (σ : Mem) (a8 : Int32 × Int32) : Option ((Int32 × Int32) ⊕ (Int32)) := (if ((p1 + (1 : Int32)) * (10 : Int32)) ≤ a8.2 then (some (.inr a8.1)) else ((fX3_isBusy j a8.2 p2 σ).bind fun q1 => (if q1 = 0 then (jX3_taken_32 a8 a8.1) else (jX3_taken_32 a8 (a8.1 + (1 : Int32))))))
def fX3_taken (j : Nat) (p1 : Int32) (p2 : Int32) (σ : Mem) : Option (Int32) := ((loop (stX3_taken_8 p1 j p2 σ) 5000 ((0 : Int32), p1 * (10 : Int32))).bind fun b8 => (some b8))
set_option maxHeartbeats 4000000 in
set_option maxRecDepth 100000 in
theorem okX3_taken (l : Launch) (cy : Nat → ClassId) (D : va_G) (B : Nat) (ek : EK) (j : Nat) (p1 : Int32) (p2 : Int32) (σ : Mem) (Y : va_W) (hj : j < 2) (res : Int32) (h : fX3_taken j p1 p2 σ = some res) : CT l cy D B ek yX3_taken cX3_taken 5 (some .int) ({ frames := 1, cells := 0, slots := 0, locals := 22 } : Room) [.ref (B + oPl j), .int p1, .int p2] σ Y (some (.int res)) σ Y := by
  refine met_X (own := "HostelBeds$Plan") (by decide) rfl (Nat.le_of_ble_eq_true rfl) ?_
  intro p e s m args below meth c C hrT hlk
  have hret : ∀ (pc9 : Nat) (lcs9 : List (Nat × Value)), decode cX3_taken pc9 = .ok (.ireturn, 1) → narrow .int (.int res) = .int res → X p l e ({ frames := 1, cells := 0, slots := 0, locals := 22 } : Room) s m args below meth c 5 cy D B 0 0 (MQ below (QR cy D B (some (.int res)) σ Y) args s 0 0 (aB B)) pc9 lcs9 [.int res] σ Y := fun _ _ hd hn => x_zret C hrT hlk hn hd
  generalize (MQ below (QR cy D B (some (.int res)) σ Y) args s 0 0 (aB B)) = Q at hret ⊢
  obtain ⟨R, hR9⟩ : ∃ R : Room, R = ({ frames := 1, cells := 0, slots := 0, locals := 22 } : Room) := ⟨_, rfl⟩
  rw [← hR9] at hret ⊢
  unfold fX3_taken at h
  show X p l e R s m args below meth c 5 cy D B 0 0 Q 0 [(0, .ref (B + oPl j)), (1, .int p1), (2, .int p2)] [] σ Y
  refine x_iconst C (v := 0) dX3_taken_0 (by decide) ?_
  refine x_istore_n C [(3, .int (0 : Int32)), (0, .ref (B + oPl j)), (1, .int p1), (2, .int p2)] dX3_taken_1 rfl (by decide) rfl ?_
  refine x_iload_n C dX3_taken_2 rfl 2 rfl ?_
  refine x_bipush C (v := 10) dX3_taken_3 (by decide) ?_
  refine x_imul C dX3_taken_5 ?_
  refine x_istore C [(4, .int (p1 * (10 : Int32))), (3, .int (0 : Int32)), (0, .ref (B + oPl j)), (1, .int p1), (2, .int p2)] dX3_taken_6 (by decide) rfl ?_
  obtain ⟨b8, hk7, h⟩ := Option.bind_eq_some_iff.mp h
  refine x_sub [2, 3, 4, 1, 0] rfl ?_
  refine loop_run (step := stX3_taken_8 p1 j p2 σ) (P := fun (a8 : Int32 × Int32) => X p l e R s m args below meth c 5 cy D B 0 0 Q 8 [(0, .ref (B + oPl j)), (1, .int p1), (2, .int p2), (3, .int a8.1), (4, .int a8.2)] [] σ Y) (K := fun (b8 : Int32) => X p l e R s m args below meth c 5 cy D B 0 0 Q 38 [(3, .int b8)] [] σ Y) ?_ 5000 ((0 : Int32), p1 * (10 : Int32)) b8 hk7 ?_
  · intro a8 r h hA1 hB2
    unfold stX3_taken_8 at h
    refine x_iload C dX3_taken_8 4 rfl ?_
    refine x_iload_n C dX3_taken_10 rfl 1 rfl ?_
    refine x_iconst C (v := 1) dX3_taken_11 (by decide) ?_
    refine x_iadd C dX3_taken_12 ?_
    refine x_bipush C (v := 10) dX3_taken_13 (by decide) ?_
    refine x_imul C dX3_taken_15 ?_
    refine x_icmp_ge C (tgt := 38) dX3_taken_16 (by decide) (fun hc3 => ?_) (fun hc3 => ?_)
    · rw [if_pos hc3] at h
      cases h
      refine x_sub [3] rfl ?_
      exact hB2 a8.1 rfl
    · rw [if_neg hc3] at h
      refine x_aload_n C dX3_taken_19 rfl 0 rfl ?_
      refine x_iload C dX3_taken_20 4 rfl ?_
      refine x_iload_n C dX3_taken_22 rfl 2 rfl ?_
      obtain ⟨q1, hk4, h⟩ := Option.bind_eq_some_iff.mp h
      refine x_callV C (As := [.int a8.2, .int p2]) (rest := []) (lw_g_mk tw_464 rfl) (lw_g_mk tw_465 rfl) (c_Pl hj) (C1 := "HostelBeds$Plan") (T := TX3) (N := 8) (ci := 5) rfl (okX3_isBusy l cy D B ek j a8.2 p2 σ Y hj _ hk4) rfl rfl (by rw [hR9]; decide) (lw_g_mk tw_466 rfl) (lw_g_mk tw_6 rfl) (by decide) rfl (lw_g_mk tw_463 rfl) rfl (Nat.le_of_ble_eq_true rfl) dX3_taken_23 (by rw [hR9]; decide) ?_
      have hJ5 : ∀ (x2 : Int32) (r9 : (Int32 × Int32) ⊕ (Int32)), jX3_taken_32 a8 x2 = some r9 → (∀ a2, r9 = .inl a2 → (fun (a8 : Int32 × Int32) => X p l e R s m args below meth c 5 cy D B 0 0 Q 8 [(0, .ref (B + oPl j)), (1, .int p1), (2, .int p2), (3, .int a8.1), (4, .int a8.2)] [] σ Y) a2) → (∀ b2, r9 = .inr b2 → (fun (b8 : Int32) => X p l e R s m args below meth c 5 cy D B 0 0 Q 38 [(3, .int b8)] [] σ Y) b2) → X p l e R s m args below meth c 5 cy D B 0 0 Q 32 [(0, .ref (B + oPl j)), (1, .int p1), (2, .int p2), (3, .int x2), (4, .int a8.2)] [] σ Y := by
        intro x2 r h hA1 hB2
        unfold jX3_taken_32 at h
        refine x_iinc C (k := 4) [(4, .int (a8.2 + (1 : Int32))), (0, .ref (B + oPl j)), (1, .int p1), (2, .int p2), (3, .int x2)] dX3_taken_32 rfl rfl (by decide) rfl ?_
        refine x_goto C (tgt := 8) dX3_taken_35 (by decide) ?_
        cases h
        refine x_sub [1, 2, 3, 4, 0] rfl ?_
        exact hA1 (x2, a8.2 + (1 : Int32)) rfl
      refine x_if_eq C (tgt := 32) dX3_taken_26 (by decide) (fun hc6 => ?_) (fun hc6 => ?_)
      · rw [if_pos hc6] at h
        exact hJ5 a8.1 _ h hA1 hB2
      · rw [if_neg hc6] at h
        refine x_iinc C (k := 3) [(3, .int (a8.1 + (1 : Int32))), (0, .ref (B + oPl j)), (1, .int p1), (2, .int p2), (4, .int a8.2)] dX3_taken_29 rfl rfl (by decide) rfl ?_
        refine x_sub [1, 2, 3, 0, 4] rfl ?_
        exact hJ5 (a8.1 + (1 : Int32)) _ h hA1 hB2
  · show X p l e R s m args below meth c 5 cy D B 0 0 Q 38 [(3, .int b8)] [] σ Y
    refine x_iload_n C dX3_taken_38 rfl 0 rfl ?_
    cases h
    exact hret _ _ dX3_taken_39 rfl
