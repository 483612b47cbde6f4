def fX5_errorOffset (σ : Mem) : Option (Int32) := (some (rI σ 1 0 0))
set_option maxHeartbeats 4000000 in
set_option maxRecDepth 100000 in
theorem okX5_errorOffset (l : Launch) (cy : Nat → ClassId) (D : va_G) (B : Nat) (σ μ ω : Mem) (res : Int32) (h : fX5_errorOffset σ = some res) : CT l cy D B yX5_errorOffset cX5_errorOffset 1 (some .int) ({ frames := 0, cells := 0, slots := 0, locals := 0 } : Room) [.ref (B + oHB)] σ μ ω (some (.int res)) σ μ ω := by
  refine met_X (own := "HostelBeds") (by decide) rfl (Nat.le_of_ble_eq_true rfl) ?_
  intro p e s m args below meth c C hrT hlk
  have hret : ∀ (pc9 : Nat) (lcs9 : List (Nat × Value)), decode cX5_errorOffset pc9 = .ok (.ireturn, 1) → narrow .int (.int res) = .int res → X p l e ({ frames := 0, cells := 0, slots := 0, locals := 0 } : Room) s m args below meth c 1 cy D B 0 0 (MQ below (QR cy D B (some (.int res)) σ μ ω) args s 0 0 (aB B)) pc9 lcs9 [.int res] σ μ ω := fun _ _ hd hn => x_zret C hrT hlk hn hd
  generalize MQ below (QR cy D B (some (.int res)) σ μ ω) args s 0 0 (aB B) = Q at hret ⊢
  obtain ⟨R, hR9⟩ : ∃ R : Room, R = ({ frames := 0, cells := 0, slots := 0, locals := 0 } : Room) := ⟨_, rfl⟩
  rw [← hR9] at hret ⊢
  unfold fX5_errorOffset at h
  show X p l e R s m args below meth c 1 cy D B 0 0 Q 0 [(0, .ref (B + oHB))] [] σ μ ω
  refine x_aload_n C dX5_errorOffset_0 rfl 0 rfl ?_
  refine x_get C (C1 := "HostelBeds") (T := TX5) (N := 12) (ci := 5) inXg5 _ (c_HB) rfl 1 (by decide) (lw_g_mk tw_288 rfl) rfl dX5_errorOffset_1 ?_
  cases h
  exact hret _ _ dX5_errorOffset_4 rfl
def stX5_takenBeds_4 (σ : Mem) (p1 : Int32) (a4 : Int32 × Int32) : Option ((Int32 × Int32) ⊕ (Int32)) := (gd (rP σ 0 < 12) (if (rI σ 20 (rP σ 0) 0) ≤ a4.2 then (some (.inr a4.1)) else ((fX3_taken 0 a4.2 p1 σ).bind fun q1 => (some (.inl (a4.1 + q1, a4.2 + (1 : Int32)))))))
def fX5_takenBeds (p1 : Int32) (σ : Mem) : Option (Int32) := ((loop (stX5_takenBeds_4 σ p1) 5000 ((0 : Int32), (0 : Int32))).bind fun b4 => (some b4))
set_option maxHeartbeats 4000000 in
set_option maxRecDepth 100000 in
theorem okX5_takenBeds (l : Launch) (cy : Nat → ClassId) (D : va_G) (B : Nat) (p1 : Int32) (σ μ ω : Mem) (res : Int32) (h : fX5_takenBeds p1 σ = some res) : CT l cy D B yX5_takenBeds cX5_takenBeds 4 (some .int) ({ frames := 2, cells := 0, slots := 0, locals := 46 } : Room) [.ref (B + oHB), .int p1] σ μ ω (some (.int res)) σ μ ω := by
  refine met_X (own := "HostelBeds") (by decide) rfl (Nat.le_of_ble_eq_true rfl) ?_
  intro p e s m args below meth c C hrT hlk
  have hret : ∀ (pc9 : Nat) (lcs9 : List (Nat × Value)), decode cX5_takenBeds pc9 = .ok (.ireturn, 1) → narrow .int (.int res) = .int res → X p l e ({ frames := 2, cells := 0, slots := 0, locals := 46 } : Room) s m args below meth c 4 cy D B 0 0 (MQ below (QR cy D B (some (.int res)) σ μ ω) args s 0 0 (aB B)) pc9 lcs9 [.int res] σ μ ω := fun _ _ hd hn => x_zret C hrT hlk hn hd
  generalize MQ below (QR cy D B (some (.int res)) σ μ ω) args s 0 0 (aB B) = Q at hret ⊢
  obtain ⟨R, hR9⟩ : ∃ R : Room, R = ({ frames := 2, cells := 0, slots := 0, locals := 46 } : Room) := ⟨_, rfl⟩
  rw [← hR9] at hret ⊢
  unfold fX5_takenBeds at h
  show X p l e R s m args below meth c 4 cy D B 0 0 Q 0 [(0, .ref (B + oHB)), (1, .int p1)] [] σ μ ω
  refine x_iconst C (v := 0) dX5_takenBeds_0 (by decide) ?_
  refine x_istore_n C [(2, .int (0 : Int32)), (0, .ref (B + oHB)), (1, .int p1)] dX5_takenBeds_1 rfl (by decide) rfl ?_
  refine x_iconst C (v := 0) dX5_takenBeds_2 (by decide) ?_
  refine x_istore_n C [(3, .int (0 : Int32)), (2, .int (0 : Int32)), (0, .ref (B + oHB)), (1, .int p1)] dX5_takenBeds_3 rfl (by decide) rfl ?_
  obtain ⟨b4, hk6, h⟩ := Option.bind_eq_some_iff.mp h
  refine x_sub [2, 3, 1, 0] rfl ?_
  refine loop_run (step := stX5_takenBeds_4 σ p1) (P := fun (a4 : Int32 × Int32) => X p l e R s m args below meth c 4 cy D B 0 0 Q 4 [(0, .ref (B + oHB)), (1, .int p1), (2, .int a4.1), (3, .int a4.2)] [] σ μ ω) (K := fun (b4 : Int32) => X p l e R s m args below meth c 4 cy D B 0 0 Q 33 [(2, .int b4)] [] σ μ ω) ?_ 5000 ((0 : Int32), (0 : Int32)) b4 hk6 ?_
  · intro a4 r h hA1 hB2
    unfold stX5_takenBeds_4 at h
    refine x_iload_n C dX5_takenBeds_4 rfl 3 rfl ?_
    refine x_aload_n C dX5_takenBeds_5 rfl 0 rfl ?_
    refine x_get C (C1 := "HostelBeds") (T := TX5) (N := 12) (ci := 5) inXg5 _ (c_HB) rfl 2 (by decide) (lw_g_mk tw_289 rfl) rfl dX5_takenBeds_6 ?_
    obtain ⟨hg3, h⟩ := gd_some h
    refine x_get C (C1 := "HostelBeds$Hostel") (T := TX1) (N := 12) (ci := 1) inXg1 _ (c_Ho hg3) rfl 1 (by decide) (lw_g_mk tw_189 rfl) rfl dX5_takenBeds_9 ?_
    refine x_icmp_ge C (tgt := 33) dX5_takenBeds_12 (by decide) (fun hc4 => ?_) (fun hc4 => ?_)
    · rw [if_pos hc4] at h
      cases h
      refine x_sub [2] rfl ?_
      exact hB2 a4.1 rfl
    · rw [if_neg hc4] at h
      refine x_iload_n C dX5_takenBeds_15 rfl 2 rfl ?_
      refine x_aload_n C dX5_takenBeds_16 rfl 0 rfl ?_
      refine x_get C (C1 := "HostelBeds") (T := TX5) (N := 12) (ci := 5) inXg5 _ (c_HB) rfl 4 (by decide) (lw_g_mk tw_291 rfl) rfl dX5_takenBeds_17 ?_
      refine x_iload_n C dX5_takenBeds_20 rfl 3 rfl ?_
      refine x_iload_n C dX5_takenBeds_21 rfl 1 rfl ?_
      obtain ⟨q1, hk5, h⟩ := Option.bind_eq_some_iff.mp h
      refine x_callV C (As := [.int a4.2, .int p1]) (rest := [.int a4.1]) (lw_g_mk tw_339 rfl) (lw_g_mk tw_340 rfl) (c_Pl (by decide)) (C1 := "HostelBeds$Plan") (T := TX3) (N := 8) (ci := 3) rfl (okX3_taken l cy D B 0 a4.2 p1 σ μ ω (by decide) _ hk5) rfl rfl (by rw [hR9]; decide) (lw_g_mk tw_341 rfl) (lw_g_mk tw_6 rfl) (by decide) rfl (lw_g_mk tw_338 rfl) rfl (Nat.le_of_ble_eq_true rfl) dX5_takenBeds_22 (by rw [hR9]; decide) ?_
      refine x_iadd C dX5_takenBeds_25 ?_
      refine x_istore_n C [(2, .int (a4.1 + q1)), (0, .ref (B + oHB)), (1, .int p1), (3, .int a4.2)] dX5_takenBeds_26 rfl (by decide) rfl ?_
      refine x_iinc C (k := 3) [(3, .int (a4.2 + (1 : Int32))), (2, .int (a4.1 + q1)), (0, .ref (B + oHB)), (1, .int p1)] dX5_takenBeds_27 rfl rfl (by decide) rfl ?_
      refine x_goto C (tgt := 4) dX5_takenBeds_30 (by decide) ?_
      cases h
      refine x_sub [2, 3, 1, 0] rfl ?_
      exact hA1 (a4.1 + q1, a4.2 + (1 : Int32)) rfl
  · show X p l e R s m args below meth c 4 cy D B 0 0 Q 33 [(2, .int b4)] [] σ μ ω
    refine x_iload_n C dX5_takenBeds_33 rfl 0 rfl ?_
    cases h
    exact hret _ _ dX5_takenBeds_34 rfl
def jX5_walkedPersons_59 (a4 : Int32 × Int32) (x1 : Int32) : Option ((Int32 × Int32) ⊕ (Int32)) := (some (.inl (x1, a4.2 + (1 : Int32))))
def stX5_walkedPersons_4 (σ : Mem) (p1 : Int32) (a4 : Int32 × Int32) : Option ((Int32 × Int32) ⊕ (Int32)) := (gd (rP σ 0 < 12) (if (rI σ 22 (rP σ 0) 0) ≤ a4.2 then (some (.inr a4.1)) else (gd (inb a4.2 17) (if ¬ (rI σ 52 0 a4.2.toNatClampNeg) = (3 : Int32) then (jX5_walkedPersons_59 a4 a4.1) else ((fX0_staysIn (rP σ 0) a4.2.toNatClampNeg p1 σ).bind fun q2 => (if q2 = 0 then (jX5_walkedPersons_59 a4 a4.1) else (jX5_walkedPersons_59 a4 (a4.1 + (rI σ 44 (rP σ 0) a4.2.toNatClampNeg)))))))))
def fX5_walkedPersons (p1 : Int32) (σ : Mem) : Option (Int32) := ((loop (stX5_walkedPersons_4 σ p1) 5000 ((0 : Int32), (0 : Int32))).bind fun b4 => (some b4))
set_option maxHeartbeats 4000000 in
set_option maxRecDepth 100000 in
theorem okX5_walkedPersons (l : Launch) (cy : Nat → ClassId) (D : va_G) (B : Nat) (p1 : Int32) (σ μ ω : Mem) (res : Int32) (h : fX5_walkedPersons p1 σ = some res) : CT l cy D B yX5_walkedPersons cX5_walkedPersons 4 (some .int) ({ frames := 1, cells := 0, slots := 0, locals := 21 } : Room) [.ref (B + oHB), .int p1] σ μ ω (some (.int res)) σ μ ω := by
  refine met_X (own := "HostelBeds") (by decide) rfl (Nat.le_of_ble_eq_true rfl) ?_
  intro p e s m args below meth c C hrT hlk
  have hret : ∀ (pc9 : Nat) (lcs9 : List (Nat × Value)), decode cX5_walkedPersons pc9 = .ok (.ireturn, 1) → narrow .int (.int res) = .int res → X p l e ({ frames := 1, cells := 0, slots := 0, locals := 21 } : Room) s m args below meth c 4 cy D B 0 0 (MQ below (QR cy D B (some (.int res)) σ μ ω) args s 0 0 (aB B)) pc9 lcs9 [.int res] σ μ ω := fun _ _ hd hn => x_zret C hrT hlk hn hd
  generalize MQ below (QR cy D B (some (.int res)) σ μ ω) args s 0 0 (aB B) = Q at hret ⊢
  obtain ⟨R, hR9⟩ : ∃ R : Room, R = ({ frames := 1, cells := 0, slots := 0, locals := 21 } : Room) := ⟨_, rfl⟩
  rw [← hR9] at hret ⊢
  unfold fX5_walkedPersons at h
  show X p l e R s m args below meth c 4 cy D B 0 0 Q 0 [(0, .ref (B + oHB)), (1, .int p1)] [] σ μ ω
  refine x_iconst C (v := 0) dX5_walkedPersons_0 (by decide) ?_
  refine x_istore_n C [(2, .int (0 : Int32)), (0, .ref (B + oHB)), (1, .int p1)] dX5_walkedPersons_1 rfl (by decide) rfl ?_
  refine x_iconst C (v := 0) dX5_walkedPersons_2 (by decide) ?_
  refine x_istore_n C [(3, .int (0 : Int32)), (2, .int (0 : Int32)), (0, .ref (B + oHB)), (1, .int p1)] dX5_walkedPersons_3 rfl (by decide) rfl ?_
  obtain ⟨b4, hk10, h⟩ := Option.bind_eq_some_iff.mp h
  refine x_sub [2, 3, 1, 0] rfl ?_
  refine loop_run (step := stX5_walkedPersons_4 σ p1) (P := fun (a4 : Int32 × Int32) => X p l e R s m args below meth c 4 cy D B 0 0 Q 4 [(0, .ref (B + oHB)), (1, .int p1), (2, .int a4.1), (3, .int a4.2)] [] σ μ ω) (K := fun (b4 : Int32) => X p l e R s m args below meth c 4 cy D B 0 0 Q 65 [(2, .int b4)] [] σ μ ω) ?_ 5000 ((0 : Int32), (0 : Int32)) b4 hk10 ?_
  · intro a4 r h hA1 hB2
    unfold stX5_walkedPersons_4 at h
    refine x_iload_n C dX5_walkedPersons_4 rfl 3 rfl ?_
    refine x_aload_n C dX5_walkedPersons_5 rfl 0 rfl ?_
    refine x_get C (C1 := "HostelBeds") (T := TX5) (N := 12) (ci := 5) inXg5 _ (c_HB) rfl 2 (by decide) (lw_g_mk tw_289 rfl) rfl dX5_walkedPersons_6 ?_
    obtain ⟨hg3, h⟩ := gd_some h
    refine x_get C (C1 := "HostelBeds$Hostel") (T := TX1) (N := 12) (ci := 1) inXg1 _ (c_Ho hg3) rfl 4 (by decide) (lw_g_mk tw_200 rfl) rfl dX5_walkedPersons_9 ?_
    refine x_icmp_ge C (tgt := 65) dX5_walkedPersons_12 (by decide) (fun hc4 => ?_) (fun hc4 => ?_)
    · rw [if_pos hc4] at h
      cases h
      refine x_sub [2] rfl ?_
      exact hB2 a4.1 rfl
    · rw [if_neg hc4] at h
      refine x_aload_n C dX5_walkedPersons_15 rfl 0 rfl ?_
      refine x_get C (C1 := "HostelBeds") (T := TX5) (N := 12) (ci := 5) inXg5 _ (c_HB) rfl 4 (by decide) (lw_g_mk tw_291 rfl) rfl dX5_walkedPersons_16 ?_
      refine x_get C (C1 := "HostelBeds$Plan") (T := TX3) (N := 8) (ci := 3) inXg3 _ (c_Pl (by decide)) rfl 2 (by decide) (lw_g_mk tw_259 rfl) rfl dX5_walkedPersons_19 ?_
      refine x_iload_n C dX5_walkedPersons_22 rfl 3 rfl ?_
      obtain ⟨hg5, h⟩ := gd_some h
      refine x_iald C _ (c_Out (by decide)) hg5 dX5_walkedPersons_23 ?_
      refine x_iconst C (v := 3) dX5_walkedPersons_24 (by decide) ?_
      have hJ6 : ∀ (x1 : Int32) (r9 : (Int32 × Int32) ⊕ (Int32)), jX5_walkedPersons_59 a4 x1 = some r9 → (∀ a2, r9 = .inl a2 → (fun (a4 : Int32 × Int32) => X p l e R s m args below meth c 4 cy D B 0 0 Q 4 [(0, .ref (B + oHB)), (1, .int p1), (2, .int a4.1), (3, .int a4.2)] [] σ μ ω) a2) → (∀ b2, r9 = .inr b2 → (fun (b4 : Int32) => X p l e R s m args below meth c 4 cy D B 0 0 Q 65 [(2, .int b4)] [] σ μ ω) b2) → X p l e R s m args below meth c 4 cy D B 0 0 Q 59 [(0, .ref (B + oHB)), (1, .int p1), (2, .int x1), (3, .int a4.2)] [] σ μ ω := by
        intro x1 r h hA1 hB2
        unfold jX5_walkedPersons_59 at h
        refine x_iinc C (k := 3) [(3, .int (a4.2 + (1 : Int32))), (0, .ref (B + oHB)), (1, .int p1), (2, .int x1)] dX5_walkedPersons_59 rfl rfl (by decide) rfl ?_
        refine x_goto C (tgt := 4) dX5_walkedPersons_62 (by decide) ?_
        cases h
        refine x_sub [1, 2, 3, 0] rfl ?_
        exact hA1 (x1, a4.2 + (1 : Int32)) rfl
      refine x_icmp_ne C (tgt := 59) dX5_walkedPersons_25 (by decide) (fun hc7 => ?_) (fun hc7 => ?_)
      · rw [if_pos hc7] at h
        exact hJ6 a4.1 _ h hA1 hB2
      · rw [if_neg hc7] at h
        refine x_aload_n C dX5_walkedPersons_28 rfl 0 rfl ?_
        refine x_get C (C1 := "HostelBeds") (T := TX5) (N := 12) (ci := 5) inXg5 _ (c_HB) rfl 2 (by decide) (lw_g_mk tw_289 rfl) rfl dX5_walkedPersons_29 ?_
        refine x_get C (C1 := "HostelBeds$Hostel") (T := TX1) (N := 12) (ci := 1) inXg1 _ (c_Ho hg3) rfl 3 (by decide) (lw_g_mk tw_197 rfl) rfl dX5_walkedPersons_32 ?_
        refine x_iload_n C dX5_walkedPersons_35 rfl 3 rfl ?_
        refine x_aldq C _ 6 (C1 := "HostelBeds$Booking") (c_Bks hg3) rfl hg5 rfl dX5_walkedPersons_36 ?_
        refine x_iload_n C dX5_walkedPersons_37 rfl 1 rfl ?_
        obtain ⟨q2, hk8, h⟩ := Option.bind_eq_some_iff.mp h
        refine x_callV C (As := [.int p1]) (rest := []) (lw_g_mk tw_394 rfl) (lw_g_mk tw_395 rfl) (c_Bk hg3 (inb_lt hg5)) (C1 := "HostelBeds$Booking") (T := TX0) (N := 11) (ci := 0) rfl (okX0_staysIn l cy D B (rP σ 0) a4.2.toNatClampNeg p1 σ μ ω hg3 (inb_lt hg5) _ hk8) rfl rfl (by rw [hR9]; decide) (lw_g_mk tw_396 rfl) (lw_g_mk tw_5 rfl) (by decide) rfl (lw_g_mk tw_891 rfl) rfl (Nat.le_of_ble_eq_true rfl) dX5_walkedPersons_38 (by rw [hR9]; decide) ?_
        refine x_if_eq C (tgt := 59) dX5_walkedPersons_41 (by decide) (fun hc9 => ?_) (fun hc9 => ?_)
        · rw [if_pos hc9] at h
          exact hJ6 a4.1 _ h hA1 hB2
        · rw [if_neg hc9] at h
          refine x_iload_n C dX5_walkedPersons_44 rfl 2 rfl ?_
          refine x_aload_n C dX5_walkedPersons_45 rfl 0 rfl ?_
          refine x_get C (C1 := "HostelBeds") (T := TX5) (N := 12) (ci := 5) inXg5 _ (c_HB) rfl 2 (by decide) (lw_g_mk tw_289 rfl) rfl dX5_walkedPersons_46 ?_
          refine x_get C (C1 := "HostelBeds$Hostel") (T := TX1) (N := 12) (ci := 1) inXg1 _ (c_Ho hg3) rfl 3 (by decide) (lw_g_mk tw_197 rfl) rfl dX5_walkedPersons_49 ?_
          refine x_iload_n C dX5_walkedPersons_52 rfl 3 rfl ?_
          refine x_aldq C _ 6 (C1 := "HostelBeds$Booking") (c_Bks hg3) rfl hg5 rfl dX5_walkedPersons_53 ?_
          refine x_get C (C1 := "HostelBeds$Booking") (T := TX0) (N := 11) (ci := 0) inXg0 _ (c_Bk hg3 (inb_lt hg5)) rfl 5 (by decide) (lw_g_mk tw_134 rfl) rfl dX5_walkedPersons_54 ?_
          refine x_iadd C dX5_walkedPersons_57 ?_
          refine x_istore_n C [(2, .int (a4.1 + (rI σ 44 (rP σ 0) a4.2.toNatClampNeg))), (0, .ref (B + oHB)), (1, .int p1), (3, .int a4.2)] dX5_walkedPersons_58 rfl (by decide) rfl ?_
          refine x_sub [1, 2, 0, 3] rfl ?_
          exact hJ6 (a4.1 + (rI σ 44 (rP σ 0) a4.2.toNatClampNeg)) _ h hA1 hB2
  · show X p l e R s m args below meth c 4 cy D B 0 0 Q 65 [(2, .int b4)] [] σ μ ω
    refine x_iload_n C dX5_walkedPersons_65 rfl 0 rfl ?_
    cases h
    exact hret _ _ dX5_walkedPersons_66 rfl
def jX5_fullNights_38 (a4 : Int32 × Int32) (x1 : Int32) : Option ((Int32 × Int32) ⊕ (Int32)) := (some (.inl (x1, a4.2 + (1 : Int32))))
def stX5_fullNights_4 (σ : Mem) (a4 : Int32 × Int32) : Option ((Int32 × Int32) ⊕ (Int32)) := (if (30 : Int32) ≤ a4.2 then (some (.inr a4.1)) else (gd (rP σ 0 < 12) (if (rI σ 20 (rP σ 0) 0) ≤ 0 then (jX5_fullNights_38 a4 a4.1) else ((fX5_takenBeds a4.2 σ).bind fun q2 => (if ¬ q2 = (rI σ 21 (rP σ 0) 0) then (jX5_fullNights_38 a4 a4.1) else (jX5_fullNights_38 a4 (a4.1 + (1 : Int32))))))))
def fX5_fullNights (σ : Mem) : Option (Int32) := ((loop (stX5_fullNights_4 σ) 5000 ((0 : Int32), (0 : Int32))).bind fun b4 => (some b4))
set_option maxHeartbeats 4000000 in
set_option maxRecDepth 100000 in
theorem okX5_fullNights (l : Launch) (cy : Nat → ClassId) (D : va_G) (B : Nat) (σ μ ω : Mem) (res : Int32) (h : fX5_fullNights σ = some res) : CT l cy D B yX5_fullNights cX5_fullNights 3 (some .int) ({ frames := 3, cells := 0, slots := 0, locals := 69 } : Room) [.ref (B + oHB)] σ μ ω (some (.int res)) σ μ ω := by
  refine met_X (own := "HostelBeds") (by decide) rfl (Nat.le_of_ble_eq_true rfl) ?_
  intro p e s m args below meth c C hrT hlk
  have hret : ∀ (pc9 : Nat) (lcs9 : List (Nat × Value)), decode cX5_fullNights pc9 = .ok (.ireturn, 1) → narrow .int (.int res) = .int res → X p l e ({ frames := 3, cells := 0, slots := 0, locals := 69 } : Room) s m args below meth c 3 cy D B 0 0 (MQ below (QR cy D B (some (.int res)) σ μ ω) args s 0 0 (aB B)) pc9 lcs9 [.int res] σ μ ω := fun _ _ hd hn => x_zret C hrT hlk hn hd
  generalize MQ below (QR cy D B (some (.int res)) σ μ ω) args s 0 0 (aB B) = Q at hret ⊢
  obtain ⟨R, hR9⟩ : ∃ R : Room, R = ({ frames := 3, cells := 0, slots := 0, locals := 69 } : Room) := ⟨_, rfl⟩
  rw [← hR9] at hret ⊢
  unfold fX5_fullNights at h
  show X p l e R s m args below meth c 3 cy D B 0 0 Q 0 [(0, .ref (B + oHB))] [] σ μ ω
  refine x_iconst C (v := 0) dX5_fullNights_0 (by decide) ?_
  refine x_istore_n C [(1, .int (0 : Int32)), (0, .ref (B + oHB))] dX5_fullNights_1 rfl (by decide) rfl ?_
  refine x_iconst C (v := 0) dX5_fullNights_2 (by decide) ?_
  refine x_istore_n C [(2, .int (0 : Int32)), (1, .int (0 : Int32)), (0, .ref (B + oHB))] dX5_fullNights_3 rfl (by decide) rfl ?_
  obtain ⟨b4, hk9, h⟩ := Option.bind_eq_some_iff.mp h
  refine x_sub [2, 1, 0] rfl ?_
  refine loop_run (step := stX5_fullNights_4 σ) (P := fun (a4 : Int32 × Int32) => X p l e R s m args below meth c 3 cy D B 0 0 Q 4 [(0, .ref (B + oHB)), (1, .int a4.1), (2, .int a4.2)] [] σ μ ω) (K := fun (b4 : Int32) => X p l e R s m args below meth c 3 cy D B 0 0 Q 44 [(1, .int b4)] [] σ μ ω) ?_ 5000 ((0 : Int32), (0 : Int32)) b4 hk9 ?_
  · intro a4 r h hA1 hB2
    unfold stX5_fullNights_4 at h
    refine x_iload_n C dX5_fullNights_4 rfl 2 rfl ?_
    refine x_bipush C (v := 30) dX5_fullNights_5 (by decide) ?_
    refine x_icmp_ge C (tgt := 44) dX5_fullNights_7 (by decide) (fun hc3 => ?_) (fun hc3 => ?_)
    · rw [if_pos hc3] at h
      cases h
      refine x_sub [1] rfl ?_
      exact hB2 a4.1 rfl
    · rw [if_neg hc3] at h
      refine x_aload_n C dX5_fullNights_10 rfl 0 rfl ?_
      refine x_get C (C1 := "HostelBeds") (T := TX5) (N := 12) (ci := 5) inXg5 _ (c_HB) rfl 2 (by decide) (lw_g_mk tw_289 rfl) rfl dX5_fullNights_11 ?_
      obtain ⟨hg4, h⟩ := gd_some h
      refine x_get C (C1 := "HostelBeds$Hostel") (T := TX1) (N := 12) (ci := 1) inXg1 _ (c_Ho hg4) rfl 1 (by decide) (lw_g_mk tw_189 rfl) rfl dX5_fullNights_14 ?_
      have hJ5 : ∀ (x1 : Int32) (r9 : (Int32 × Int32) ⊕ (Int32)), jX5_fullNights_38 a4 x1 = some r9 → (∀ a2, r9 = .inl a2 → (fun (a4 : Int32 × Int32) => X p l e R s m args below meth c 3 cy D B 0 0 Q 4 [(0, .ref (B + oHB)), (1, .int a4.1), (2, .int a4.2)] [] σ μ ω) a2) → (∀ b2, r9 = .inr b2 → (fun (b4 : Int32) => X p l e R s m args below meth c 3 cy D B 0 0 Q 44 [(1, .int b4)] [] σ μ ω) b2) → X p l e R s m args below meth c 3 cy D B 0 0 Q 38 [(0, .ref (B + oHB)), (1, .int x1), (2, .int a4.2)] [] σ μ ω := by
        intro x1 r h hA1 hB2
        unfold jX5_fullNights_38 at h
        refine x_iinc C (k := 2) [(2, .int (a4.2 + (1 : Int32))), (0, .ref (B + oHB)), (1, .int x1)] dX5_fullNights_38 rfl rfl (by decide) rfl ?_
        refine x_goto C (tgt := 4) dX5_fullNights_41 (by decide) ?_
        cases h
        refine x_sub [1, 2, 0] rfl ?_
        exact hA1 (x1, a4.2 + (1 : Int32)) rfl
      refine x_if_le C (tgt := 38) dX5_fullNights_17 (by decide) (fun hc6 => ?_) (fun hc6 => ?_)
      · rw [if_pos hc6] at h
        exact hJ5 a4.1 _ h hA1 hB2
      · rw [if_neg hc6] at h
        refine x_aload_n C dX5_fullNights_20 rfl 0 rfl ?_
        refine x_iload_n C dX5_fullNights_21 rfl 2 rfl ?_
        obtain ⟨q2, hk7, h⟩ := Option.bind_eq_some_iff.mp h
        refine x_callV C (As := [.int a4.2]) (rest := []) (lw_g_mk tw_336 rfl) (lw_g_mk tsel_0 rfl) (c_HB) (C1 := "HostelBeds") (T := TX5) (N := 12) (ci := 5) rfl (okX5_takenBeds l cy D B a4.2 σ μ ω _ hk7) rfl rfl (by rw [hR9]; decide) (lw_g_mk tw_337 rfl) (lw_g_mk tw_1 rfl) (by decide) rfl (lw_g_mk tw_334 rfl) rfl (Nat.le_of_ble_eq_true rfl) dX5_fullNights_22 (by rw [hR9]; decide) ?_
        refine x_aload_n C dX5_fullNights_25 rfl 0 rfl ?_
        refine x_get C (C1 := "HostelBeds") (T := TX5) (N := 12) (ci := 5) inXg5 _ (c_HB) rfl 2 (by decide) (lw_g_mk tw_289 rfl) rfl dX5_fullNights_26 ?_
        refine x_get C (C1 := "HostelBeds$Hostel") (T := TX1) (N := 12) (ci := 1) inXg1 _ (c_Ho hg4) rfl 2 (by decide) (lw_g_mk tw_193 rfl) rfl dX5_fullNights_29 ?_
        refine x_icmp_ne C (tgt := 38) dX5_fullNights_32 (by decide) (fun hc8 => ?_) (fun hc8 => ?_)
        · rw [if_pos hc8] at h
          exact hJ5 a4.1 _ h hA1 hB2
        · rw [if_neg hc8] at h
          refine x_iinc C (k := 1) [(1, .int (a4.1 + (1 : Int32))), (0, .ref (B + oHB)), (2, .int a4.2)] dX5_fullNights_35 rfl rfl (by decide) rfl ?_
          refine x_sub [1, 0, 2] rfl ?_
          exact hJ5 (a4.1 + (1 : Int32)) _ h hA1 hB2
  · show X p l e R s m args below meth c 3 cy D B 0 0 Q 44 [(1, .int b4)] [] σ μ ω
    refine x_iload_n C dX5_fullNights_44 rfl 0 rfl ?_
    cases h
    exact hret _ _ dX5_fullNights_45 rfl
def jX5_splits_31 (a4 : Int32 × Int32) (x1 : Int32) : Option ((Int32 × Int32) ⊕ (Int32)) := (some (.inl (x1, a4.2 + (1 : Int32))))
def stX5_splits_4 (σ : Mem) (a4 : Int32 × Int32) : Option ((Int32 × Int32) ⊕ (Int32)) := (gd (rP σ 0 < 12) (if (rI σ 22 (rP σ 0) 0) ≤ a4.2 then (some (.inr a4.1)) else (gd (inb a4.2 17) (if ¬ (rI σ 52 0 a4.2.toNatClampNeg) = (2 : Int32) then (jX5_splits_31 a4 a4.1) else (jX5_splits_31 a4 (a4.1 + (1 : Int32)))))))
def fX5_splits (σ : Mem) : Option (Int32) := ((loop (stX5_splits_4 σ) 5000 ((0 : Int32), (0 : Int32))).bind fun b4 => (some b4))
set_option maxHeartbeats 4000000 in
set_option maxRecDepth 100000 in
theorem okX5_splits (l : Launch) (cy : Nat → ClassId) (D : va_G) (B : Nat) (σ μ ω : Mem) (res : Int32) (h : fX5_splits σ = some res) : CT l cy D B yX5_splits cX5_splits 3 (some .int) ({ frames := 0, cells := 0, slots := 0, locals := 0 } : Room) [.ref (B + oHB)] σ μ ω (some (.int res)) σ μ ω := by
  refine met_X (own := "HostelBeds") (by decide) rfl (Nat.le_of_ble_eq_true rfl) ?_
  intro p e s m args below meth c C hrT hlk
  have hret : ∀ (pc9 : Nat) (lcs9 : List (Nat × Value)), decode cX5_splits pc9 = .ok (.ireturn, 1) → narrow .int (.int res) = .int res → X p l e ({ frames := 0, cells := 0, slots := 0, locals := 0 } : Room) s m args below meth c 3 cy D B 0 0 (MQ below (QR cy D B (some (.int res)) σ μ ω) args s 0 0 (aB B)) pc9 lcs9 [.int res] σ μ ω := fun _ _ hd hn => x_zret C hrT hlk hn hd
  generalize MQ below (QR cy D B (some (.int res)) σ μ ω) args s 0 0 (aB B) = Q at hret ⊢
  obtain ⟨R, hR9⟩ : ∃ R : Room, R = ({ frames := 0, cells := 0, slots := 0, locals := 0 } : Room) := ⟨_, rfl⟩
  rw [← hR9] at hret ⊢
  unfold fX5_splits at h
  show X p l e R s m args below meth c 3 cy D B 0 0 Q 0 [(0, .ref (B + oHB))] [] σ μ ω
  refine x_iconst C (v := 0) dX5_splits_0 (by decide) ?_
  refine x_istore_n C [(1, .int (0 : Int32)), (0, .ref (B + oHB))] dX5_splits_1 rfl (by decide) rfl ?_
  refine x_iconst C (v := 0) dX5_splits_2 (by decide) ?_
  refine x_istore_n C [(2, .int (0 : Int32)), (1, .int (0 : Int32)), (0, .ref (B + oHB))] dX5_splits_3 rfl (by decide) rfl ?_
  obtain ⟨b4, hk8, h⟩ := Option.bind_eq_some_iff.mp h
  refine x_sub [2, 1, 0] rfl ?_
  refine loop_run (step := stX5_splits_4 σ) (P := fun (a4 : Int32 × Int32) => X p l e R s m args below meth c 3 cy D B 0 0 Q 4 [(0, .ref (B + oHB)), (1, .int a4.1), (2, .int a4.2)] [] σ μ ω) (K := fun (b4 : Int32) => X p l e R s m args below meth c 3 cy D B 0 0 Q 37 [(1, .int b4)] [] σ μ ω) ?_ 5000 ((0 : Int32), (0 : Int32)) b4 hk8 ?_
  · intro a4 r h hA1 hB2
    unfold stX5_splits_4 at h
    refine x_iload_n C dX5_splits_4 rfl 2 rfl ?_
    refine x_aload_n C dX5_splits_5 rfl 0 rfl ?_
    refine x_get C (C1 := "HostelBeds") (T := TX5) (N := 12) (ci := 5) inXg5 _ (c_HB) rfl 2 (by decide) (lw_g_mk tw_289 rfl) rfl dX5_splits_6 ?_
    obtain ⟨hg3, h⟩ := gd_some h
    refine x_get C (C1 := "HostelBeds$Hostel") (T := TX1) (N := 12) (ci := 1) inXg1 _ (c_Ho hg3) rfl 4 (by decide) (lw_g_mk tw_200 rfl) rfl dX5_splits_9 ?_
    refine x_icmp_ge C (tgt := 37) dX5_splits_12 (by decide) (fun hc4 => ?_) (fun hc4 => ?_)
    · rw [if_pos hc4] at h
      cases h
      refine x_sub [1] rfl ?_
      exact hB2 a4.1 rfl
    · rw [if_neg hc4] at h
      refine x_aload_n C dX5_splits_15 rfl 0 rfl ?_
      refine x_get C (C1 := "HostelBeds") (T := TX5) (N := 12) (ci := 5) inXg5 _ (c_HB) rfl 4 (by decide) (lw_g_mk tw_291 rfl) rfl dX5_splits_16 ?_
      refine x_get C (C1 := "HostelBeds$Plan") (T := TX3) (N := 8) (ci := 3) inXg3 _ (c_Pl (by decide)) rfl 2 (by decide) (lw_g_mk tw_259 rfl) rfl dX5_splits_19 ?_
      refine x_iload_n C dX5_splits_22 rfl 2 rfl ?_
      obtain ⟨hg5, h⟩ := gd_some h
      refine x_iald C _ (c_Out (by decide)) hg5 dX5_splits_23 ?_
      refine x_iconst C (v := 2) dX5_splits_24 (by decide) ?_
      have hJ6 : ∀ (x1 : Int32) (r9 : (Int32 × Int32) ⊕ (Int32)), jX5_splits_31 a4 x1 = some r9 → (∀ a2, r9 = .inl a2 → (fun (a4 : Int32 × Int32) => X p l e R s m args below meth c 3 cy D B 0 0 Q 4 [(0, .ref (B + oHB)), (1, .int a4.1), (2, .int a4.2)] [] σ μ ω) a2) → (∀ b2, r9 = .inr b2 → (fun (b4 : Int32) => X p l e R s m args below meth c 3 cy D B 0 0 Q 37 [(1, .int b4)] [] σ μ ω) b2) → X p l e R s m args below meth c 3 cy D B 0 0 Q 31 [(0, .ref (B + oHB)), (1, .int x1), (2, .int a4.2)] [] σ μ ω := by
        intro x1 r h hA1 hB2
        unfold jX5_splits_31 at h
        refine x_iinc C (k := 2) [(2, .int (a4.2 + (1 : Int32))), (0, .ref (B + oHB)), (1, .int x1)] dX5_splits_31 rfl rfl (by decide) rfl ?_
        refine x_goto C (tgt := 4) dX5_splits_34 (by decide) ?_
        cases h
        refine x_sub [1, 2, 0] rfl ?_
        exact hA1 (x1, a4.2 + (1 : Int32)) rfl
      refine x_icmp_ne C (tgt := 31) dX5_splits_25 (by decide) (fun hc7 => ?_) (fun hc7 => ?_)
      · rw [if_pos hc7] at h
        exact hJ6 a4.1 _ h hA1 hB2
      · rw [if_neg hc7] at h
        refine x_iinc C (k := 1) [(1, .int (a4.1 + (1 : Int32))), (0, .ref (B + oHB)), (2, .int a4.2)] dX5_splits_28 rfl rfl (by decide) rfl ?_
        refine x_sub [1, 0, 2] rfl ?_
        exact hJ6 (a4.1 + (1 : Int32)) _ h hA1 hB2
  · show X p l e R s m args below meth c 3 cy D B 0 0 Q 37 [(1, .int b4)] [] σ μ ω
    refine x_iload_n C dX5_splits_37 rfl 0 rfl ?_
    cases h
    exact hret _ _ dX5_splits_38 rfl
def fX5_walkCost (σ : Mem) : Option (Int32) := (some (rI σ 56 0 0))
set_option maxHeartbeats 4000000 in
set_option maxRecDepth 100000 in
theorem okX5_walkCost (l : Launch) (cy : Nat → ClassId) (D : va_G) (B : Nat) (σ μ ω : Mem) (res : Int32) (h : fX5_walkCost σ = some res) : CT l cy D B yX5_walkCost cX5_walkCost 1 (some .int) ({ frames := 0, cells := 0, slots := 0, locals := 0 } : Room) [.ref (B + oHB)] σ μ ω (some (.int res)) σ μ ω := by
  refine met_X (own := "HostelBeds") (by decide) rfl (Nat.le_of_ble_eq_true rfl) ?_
  intro p e s m args below meth c C hrT hlk
  have hret : ∀ (pc9 : Nat) (lcs9 : List (Nat × Value)), decode cX5_walkCost pc9 = .ok (.ireturn, 1) → narrow .int (.int res) = .int res → X p l e ({ frames := 0, cells := 0, slots := 0, locals := 0 } : Room) s m args below meth c 1 cy D B 0 0 (MQ below (QR cy D B (some (.int res)) σ μ ω) args s 0 0 (aB B)) pc9 lcs9 [.int res] σ μ ω := fun _ _ hd hn => x_zret C hrT hlk hn hd
  generalize MQ below (QR cy D B (some (.int res)) σ μ ω) args s 0 0 (aB B) = Q at hret ⊢
  obtain ⟨R, hR9⟩ : ∃ R : Room, R = ({ frames := 0, cells := 0, slots := 0, locals := 0 } : Room) := ⟨_, rfl⟩
  rw [← hR9] at hret ⊢
  unfold fX5_walkCost at h
  show X p l e R s m args below meth c 1 cy D B 0 0 Q 0 [(0, .ref (B + oHB))] [] σ μ ω
  refine x_aload_n C dX5_walkCost_0 rfl 0 rfl ?_
  refine x_get C (C1 := "HostelBeds") (T := TX5) (N := 12) (ci := 5) inXg5 _ (c_HB) rfl 4 (by decide) (lw_g_mk tw_291 rfl) rfl dX5_walkCost_1 ?_
  refine x_get C (C1 := "HostelBeds$Plan") (T := TX3) (N := 8) (ci := 3) inXg3 _ (c_Pl (by decide)) rfl 6 (by decide) (lw_g_mk tw_267 rfl) rfl dX5_walkCost_4 ?_
  cases h
  exact hret _ _ dX5_walkCost_7 rfl
def fX5_net (σ : Mem) : Option (Int32) := (some ((rI σ 55 0 0) - (rI σ 56 0 0)))
set_option maxHeartbeats 4000000 in
set_option maxRecDepth 100000 in
theorem okX5_net (l : Launch) (cy : Nat → ClassId) (D : va_G) (B : Nat) (σ μ ω : Mem) (res : Int32) (h : fX5_net σ = some res) : CT l cy D B yX5_net cX5_net 1 (some .int) ({ frames := 0, cells := 0, slots := 0, locals := 0 } : Room) [.ref (B + oHB)] σ μ ω (some (.int res)) σ μ ω := by
  refine met_X (own := "HostelBeds") (by decide) rfl (Nat.le_of_ble_eq_true rfl) ?_
  intro p e s m args below meth c C hrT hlk
  have hret : ∀ (pc9 : Nat) (lcs9 : List (Nat × Value)), decode cX5_net pc9 = .ok (.ireturn, 1) → narrow .int (.int res) = .int res → X p l e ({ frames := 0, cells := 0, slots := 0, locals := 0 } : Room) s m args below meth c 1 cy D B 0 0 (MQ below (QR cy D B (some (.int res)) σ μ ω) args s 0 0 (aB B)) pc9 lcs9 [.int res] σ μ ω := fun _ _ hd hn => x_zret C hrT hlk hn hd
  generalize MQ below (QR cy D B (some (.int res)) σ μ ω) args s 0 0 (aB B) = Q at hret ⊢
  obtain ⟨R, hR9⟩ : ∃ R : Room, R = ({ frames := 0, cells := 0, slots := 0, locals := 0 } : Room) := ⟨_, rfl⟩
  rw [← hR9] at hret ⊢
  unfold fX5_net at h
  show X p l e R s m args below meth c 1 cy D B 0 0 Q 0 [(0, .ref (B + oHB))] [] σ μ ω
  refine x_aload_n C dX5_net_0 rfl 0 rfl ?_
  refine x_get C (C1 := "HostelBeds") (T := TX5) (N := 12) (ci := 5) inXg5 _ (c_HB) rfl 4 (by decide) (lw_g_mk tw_291 rfl) rfl dX5_net_1 ?_
  refine x_get C (C1 := "HostelBeds$Plan") (T := TX3) (N := 8) (ci := 3) inXg3 _ (c_Pl (by decide)) rfl 5 (by decide) (lw_g_mk tw_265 rfl) rfl dX5_net_4 ?_
  refine x_aload_n C dX5_net_7 rfl 0 rfl ?_
  refine x_get C (C1 := "HostelBeds") (T := TX5) (N := 12) (ci := 5) inXg5 _ (c_HB) rfl 4 (by decide) (lw_g_mk tw_291 rfl) rfl dX5_net_8 ?_
  refine x_get C (C1 := "HostelBeds$Plan") (T := TX3) (N := 8) (ci := 3) inXg3 _ (c_Pl (by decide)) rfl 6 (by decide) (lw_g_mk tw_267 rfl) rfl dX5_net_11 ?_
  refine x_isub C dX5_net_14 ?_
  cases h
  exact hret _ _ dX5_net_15 rfl
def fX5_addToSpare (p1 : Int32) (p2 : Int32) (p3 : Int32) (p4 : Int32) (p5 : Int32) (σ : Mem) : Option (Int32 × Mem) := (gd (rP σ 1 < 12) (gd (rP σ 0 < 12) ((fX1_copy (rP σ 1) (rP σ 0) σ).bind fun q1 => (gd (rP q1 1 < 12) (gd (inb (rI q1 22 (rP q1 1) 0) 17) ((fX0_fill (rP q1 1) ((rI q1 22 (rP q1 1) 0).toNatClampNeg) p1 p2 p3 p4 p5 (100 : Int32) q1).bind fun q2 => (gd (rP q2 1 < 12) (gd (rP (wI q2 49 (rP q2 1) ((rI q1 22 (rP q1 1) 0).toNatClampNeg) (1 : Int32)) 1 < 12) (some (rI q1 22 (rP q1 1) 0, wI (wI q2 49 (rP q2 1) ((rI q1 22 (rP q1 1) 0).toNatClampNeg) (1 : Int32)) 22 (rP (wI q2 49 (rP q2 1) ((rI q1 22 (rP q1 1) 0).toNatClampNeg) (1 : Int32)) 1) 0 ((rI (wI q2 49 (rP q2 1) ((rI q1 22 (rP q1 1) 0).toNatClampNeg) (1 : Int32)) 22 (rP (wI q2 49 (rP q2 1) ((rI q1 22 (rP q1 1) 0).toNatClampNeg) (1 : Int32)) 1) 0) + (1 : Int32))))))))))))
set_option maxHeartbeats 4000000 in
set_option maxRecDepth 100000 in
theorem okX5_addToSpare (l : Launch) (cy : Nat → ClassId) (D : va_G) (B : Nat) (p1 : Int32) (p2 : Int32) (p3 : Int32) (p4 : Int32) (p5 : Int32) (σ μ ω : Mem) (res : Int32 × Mem) (h : fX5_addToSpare p1 p2 p3 p4 p5 σ = some res) : CT l cy D B yX5_addToSpare cX5_addToSpare 7 (some .int) ({ frames := 3, cells := 0, slots := 0, locals := 69 } : Room) [.ref (B + oHB), .int p1, .int p2, .int p3, .int p4, .int p5] σ μ ω (some (.int res.1)) res.2 μ ω := by
  refine met_X (own := "HostelBeds") (by decide) rfl (Nat.le_of_ble_eq_true rfl) ?_
  intro p e s m args below meth c C hrT hlk
  have hret : ∀ (pc9 : Nat) (lcs9 : List (Nat × Value)), decode cX5_addToSpare pc9 = .ok (.ireturn, 1) → narrow .int (.int res.1) = .int res.1 → X p l e ({ frames := 3, cells := 0, slots := 0, locals := 69 } : Room) s m args below meth c 7 cy D B 0 0 (MQ below (QR cy D B (some (.int res.1)) res.2 μ ω) args s 0 0 (aB B)) pc9 lcs9 [.int res.1] res.2 μ ω := fun _ _ hd hn => x_zret C hrT hlk hn hd
  generalize MQ below (QR cy D B (some (.int res.1)) res.2 μ ω) args s 0 0 (aB B) = Q at hret ⊢
  obtain ⟨R, hR9⟩ : ∃ R : Room, R = ({ frames := 3, cells := 0, slots := 0, locals := 69 } : Room) := ⟨_, rfl⟩
  rw [← hR9] at hret ⊢
  unfold fX5_addToSpare at h
  show X p l e R s m args below meth c 7 cy D B 0 0 Q 0 [(0, .ref (B + oHB)), (1, .int p1), (2, .int p2), (3, .int p3), (4, .int p4), (5, .int p5)] [] σ μ ω
  refine x_aload_n C dX5_addToSpare_0 rfl 0 rfl ?_
  refine x_get C (C1 := "HostelBeds") (T := TX5) (N := 12) (ci := 5) inXg5 _ (c_HB) rfl 3 (by decide) (lw_g_mk tw_290 rfl) rfl dX5_addToSpare_1 ?_
  obtain ⟨hg1, h⟩ := gd_some h
  refine x_aload_n C dX5_addToSpare_4 rfl 0 rfl ?_
  refine x_get C (C1 := "HostelBeds") (T := TX5) (N := 12) (ci := 5) inXg5 _ (c_HB) rfl 2 (by decide) (lw_g_mk tw_289 rfl) rfl dX5_addToSpare_5 ?_
  obtain ⟨hg2, h⟩ := gd_some h
  obtain ⟨q1, hk3, h⟩ := Option.bind_eq_some_iff.mp h
  refine x_callV C (As := [.ref (B + oHo (rP σ 0))]) (rest := []) (lw_g_mk tw_363 rfl) (lw_g_mk tw_364 rfl) (c_Ho hg1) (C1 := "HostelBeds$Hostel") (T := TX1) (N := 12) (ci := 1) rfl (okX1_copy l cy D B (rP σ 1) (rP σ 0) σ μ ω hg1 hg2 _ hk3) rfl rfl (by rw [hR9]; decide) (lw_g_mk tw_365 rfl) (lw_g_mk tw_3 rfl) (by decide) rfl (lw_g_mk tw_362 rfl) rfl (Nat.le_of_ble_eq_true rfl) dX5_addToSpare_8 (by rw [hR9]; decide) ?_
  refine x_aload_n C dX5_addToSpare_11 rfl 0 rfl ?_
  refine x_get C (C1 := "HostelBeds") (T := TX5) (N := 12) (ci := 5) inXg5 _ (c_HB) rfl 3 (by decide) (lw_g_mk tw_290 rfl) rfl dX5_addToSpare_12 ?_
  obtain ⟨hg4, h⟩ := gd_some h
  refine x_get C (C1 := "HostelBeds$Hostel") (T := TX1) (N := 12) (ci := 1) inXg1 _ (c_Ho hg4) rfl 4 (by decide) (lw_g_mk tw_200 rfl) rfl dX5_addToSpare_15 ?_
  refine x_istore C [(6, .int (rI q1 22 (rP q1 1) 0)), (0, .ref (B + oHB)), (1, .int p1), (2, .int p2), (3, .int p3), (4, .int p4), (5, .int p5)] dX5_addToSpare_18 (by decide) rfl ?_
  refine x_aload_n C dX5_addToSpare_20 rfl 1 rfl ?_
  refine x_get C (C1 := "HostelBeds") (T := TX5) (N := 12) (ci := 5) inXg5 _ (c_HB) rfl 3 (by decide) (lw_g_mk tw_290 rfl) rfl dX5_addToSpare_21 ?_
  refine x_get C (C1 := "HostelBeds$Hostel") (T := TX1) (N := 12) (ci := 1) inXg1 _ (c_Ho hg4) rfl 3 (by decide) (lw_g_mk tw_197 rfl) rfl dX5_addToSpare_24 ?_
  refine x_iload C dX5_addToSpare_27 0 rfl ?_
  obtain ⟨hg5, h⟩ := gd_some h
  refine x_aldq C _ 6 (C1 := "HostelBeds$Booking") (c_Bks hg4) rfl hg5 rfl dX5_addToSpare_29 ?_
  refine x_iload_n C dX5_addToSpare_30 rfl 2 rfl ?_
  refine x_iload_n C dX5_addToSpare_31 rfl 3 rfl ?_
  refine x_iload_n C dX5_addToSpare_32 rfl 4 rfl ?_
  refine x_iload C dX5_addToSpare_33 5 rfl ?_
  refine x_iload C dX5_addToSpare_35 6 rfl ?_
  refine x_bipush C (v := 100) dX5_addToSpare_37 (by decide) ?_
  obtain ⟨q2, hk6, h⟩ := Option.bind_eq_some_iff.mp h
  refine x_callV C (As := [.int p1, .int p2, .int p3, .int p4, .int p5, .int (100 : Int32)]) (rest := []) (lw_g_mk tw_375 rfl) (lw_g_mk tw_376 rfl) (c_Bk hg4 (inb_lt hg5)) (C1 := "HostelBeds$Booking") (T := TX0) (N := 11) (ci := 0) rfl (okX0_fill l cy D B (rP q1 1) ((rI q1 22 (rP q1 1) 0).toNatClampNeg) p1 p2 p3 p4 p5 (100 : Int32) q1 μ ω hg4 (inb_lt hg5) _ hk6) rfl rfl (by rw [hR9]; decide) (lw_g_mk tw_377 rfl) (lw_g_mk tw_5 rfl) (by decide) rfl (lw_g_mk tw_1004 rfl) rfl (Nat.le_of_ble_eq_true rfl) dX5_addToSpare_39 (by rw [hR9]; decide) ?_
  refine x_aload_n C dX5_addToSpare_42 rfl 1 rfl ?_
  refine x_get C (C1 := "HostelBeds") (T := TX5) (N := 12) (ci := 5) inXg5 _ (c_HB) rfl 3 (by decide) (lw_g_mk tw_290 rfl) rfl dX5_addToSpare_43 ?_
  obtain ⟨hg7, h⟩ := gd_some h
  refine x_get C (C1 := "HostelBeds$Hostel") (T := TX1) (N := 12) (ci := 1) inXg1 _ (c_Ho hg7) rfl 3 (by decide) (lw_g_mk tw_197 rfl) rfl dX5_addToSpare_46 ?_
  refine x_iload C dX5_addToSpare_49 0 rfl ?_
  refine x_aldq C _ 6 (C1 := "HostelBeds$Booking") (c_Bks hg7) rfl hg5 rfl dX5_addToSpare_51 ?_
  refine x_iconst C (v := 1) dX5_addToSpare_52 (by decide) ?_
  refine x_put C (C1 := "HostelBeds$Booking") (T := TX0) (N := 11) (ci := 0) inXg0 tyX0 tyX0_ok nmX0 _ (c_Bk hg7 (inb_lt hg5)) rfl 10 (by decide) (lw_g_mk tw_151 rfl) rfl rfl rfl rfl (Nat.le_of_ble_eq_true rfl) dX5_addToSpare_53 (s_Bk_state hg7 (inb_lt hg5)) ?_
  refine x_aload_n C dX5_addToSpare_56 rfl 1 rfl ?_
  refine x_get C (C1 := "HostelBeds") (T := TX5) (N := 12) (ci := 5) inXg5 _ (c_HB) rfl 3 (by decide) (lw_g_mk tw_290 rfl) rfl dX5_addToSpare_57 ?_
  obtain ⟨hg8, h⟩ := gd_some h
  refine x_dup C dX5_addToSpare_60 rfl ?_
  refine x_get C (C1 := "HostelBeds$Hostel") (T := TX1) (N := 12) (ci := 1) inXg1 _ (c_Ho hg8) rfl 4 (by decide) (lw_g_mk tw_200 rfl) rfl dX5_addToSpare_61 ?_
  refine x_iconst C (v := 1) dX5_addToSpare_64 (by decide) ?_
  refine x_iadd C dX5_addToSpare_65 ?_
  refine x_put C (C1 := "HostelBeds$Hostel") (T := TX1) (N := 12) (ci := 1) inXg1 tyX1 tyX1_ok nmX1 _ (c_Ho hg8) rfl 4 (by decide) (lw_g_mk tw_200 rfl) rfl rfl rfl rfl (Nat.le_of_ble_eq_true rfl) dX5_addToSpare_66 (s_Ho_bookingCount hg8) ?_
  refine x_iload C dX5_addToSpare_69 0 rfl ?_
  cases h
  exact hret _ _ dX5_addToSpare_71 rfl
def fX5_netOfSpare (σ : Mem) : Option (Int32 × Mem) := (gd (rP σ 1 < 12) ((fX3_make 1 (rP σ 1) σ).bind fun q1 => (some ((rI q1 55 1 0) - (rI q1 56 1 0), q1))))
set_option maxHeartbeats 4000000 in
set_option maxRecDepth 100000 in
theorem okX5_netOfSpare (l : Launch) (cy : Nat → ClassId) (D : va_G) (B : Nat) (σ μ ω : Mem) (res : Int32 × Mem) (h : fX5_netOfSpare σ = some res) : CT l cy D B yX5_netOfSpare cX5_netOfSpare 1 (some .int) ({ frames := 5, cells := 0, slots := 0, locals := 122 } : Room) [.ref (B + oHB)] σ μ ω (some (.int res.1)) res.2 μ ω := by
  refine met_X (own := "HostelBeds") (by decide) rfl (Nat.le_of_ble_eq_true rfl) ?_
  intro p e s m args below meth c C hrT hlk
  have hret : ∀ (pc9 : Nat) (lcs9 : List (Nat × Value)), decode cX5_netOfSpare pc9 = .ok (.ireturn, 1) → narrow .int (.int res.1) = .int res.1 → X p l e ({ frames := 5, cells := 0, slots := 0, locals := 122 } : Room) s m args below meth c 1 cy D B 0 0 (MQ below (QR cy D B (some (.int res.1)) res.2 μ ω) args s 0 0 (aB B)) pc9 lcs9 [.int res.1] res.2 μ ω := fun _ _ hd hn => x_zret C hrT hlk hn hd
  generalize MQ below (QR cy D B (some (.int res.1)) res.2 μ ω) args s 0 0 (aB B) = Q at hret ⊢
  obtain ⟨R, hR9⟩ : ∃ R : Room, R = ({ frames := 5, cells := 0, slots := 0, locals := 122 } : Room) := ⟨_, rfl⟩
  rw [← hR9] at hret ⊢
  unfold fX5_netOfSpare at h
  show X p l e R s m args below meth c 1 cy D B 0 0 Q 0 [(0, .ref (B + oHB))] [] σ μ ω
  refine x_aload_n C dX5_netOfSpare_0 rfl 0 rfl ?_
  refine x_get C (C1 := "HostelBeds") (T := TX5) (N := 12) (ci := 5) inXg5 _ (c_HB) rfl 5 (by decide) (lw_g_mk tw_292 rfl) rfl dX5_netOfSpare_1 ?_
  refine x_aload_n C dX5_netOfSpare_4 rfl 0 rfl ?_
  refine x_get C (C1 := "HostelBeds") (T := TX5) (N := 12) (ci := 5) inXg5 _ (c_HB) rfl 3 (by decide) (lw_g_mk tw_290 rfl) rfl dX5_netOfSpare_5 ?_
  obtain ⟨hg1, h⟩ := gd_some h
  obtain ⟨q1, hk2, h⟩ := Option.bind_eq_some_iff.mp h
  refine x_callV C (As := [.ref (B + oHo (rP σ 1))]) (rest := []) (lw_g_mk tw_413 rfl) (lw_g_mk tw_414 rfl) (c_Pl (by decide)) (C1 := "HostelBeds$Plan") (T := TX3) (N := 8) (ci := 3) rfl (okX3_make l cy D B 1 (rP σ 1) σ μ ω (by decide) hg1 _ hk2) rfl rfl (by rw [hR9]; decide) (lw_g_mk tw_415 rfl) (lw_g_mk tw_6 rfl) (by decide) rfl (lw_g_mk tw_412 rfl) rfl (Nat.le_of_ble_eq_true rfl) dX5_netOfSpare_8 (by rw [hR9]; decide) ?_
  refine x_aload_n C dX5_netOfSpare_11 rfl 0 rfl ?_
  refine x_get C (C1 := "HostelBeds") (T := TX5) (N := 12) (ci := 5) inXg5 _ (c_HB) rfl 5 (by decide) (lw_g_mk tw_292 rfl) rfl dX5_netOfSpare_12 ?_
  refine x_get C (C1 := "HostelBeds$Plan") (T := TX3) (N := 8) (ci := 3) inXg3 _ (c_Pl (by decide)) rfl 5 (by decide) (lw_g_mk tw_265 rfl) rfl dX5_netOfSpare_15 ?_
  refine x_aload_n C dX5_netOfSpare_18 rfl 0 rfl ?_
  refine x_get C (C1 := "HostelBeds") (T := TX5) (N := 12) (ci := 5) inXg5 _ (c_HB) rfl 5 (by decide) (lw_g_mk tw_292 rfl) rfl dX5_netOfSpare_19 ?_
  refine x_get C (C1 := "HostelBeds$Plan") (T := TX3) (N := 8) (ci := 3) inXg3 _ (c_Pl (by decide)) rfl 6 (by decide) (lw_g_mk tw_267 rfl) rfl dX5_netOfSpare_22 ?_
  refine x_isub C dX5_netOfSpare_25 ?_
  cases h
  exact hret _ _ dX5_netOfSpare_26 rfl
def jX5_bestOver_80 (a20 : Int32 × Int32 × Int32 × Int32 × Mem) (x3 : Int32) (x4 : Int32) (x5 : Int32) (σ6 : Mem) : Option ((Int32 × Int32 × Int32 × Int32 × Mem) ⊕ (Int32 × Mem)) := (some (.inl (x3, x4, x5, a20.2.2.2.1 + (1 : Int32), σ6)))
def jX5_bestOver_77 (a20 : Int32 × Int32 × Int32 × Int32 × Mem) (q2 : Int32 × Mem) (q7 : Int32 × Mem) (x8 : Int32) (x9 : Int32) : Option ((Int32 × Int32 × Int32 × Int32 × Mem) ⊕ (Int32 × Mem)) := (jX5_bestOver_80 a20 x8 x9 q2.1 q7.2)
def jX5_bestOver_71 (a20 : Int32 × Int32 × Int32 × Int32 × Mem) (q2 : Int32 × Mem) (q7 : Int32 × Mem) : Option ((Int32 × Int32 × Int32 × Int32 × Mem) ⊕ (Int32 × Mem)) := (jX5_bestOver_77 a20 q2 q7 a20.2.2.2.1 q7.1)
def stX5_bestOver_20 (a20 : Int32 × Int32 × Int32 × Int32 × Mem) : Option ((Int32 × Int32 × Int32 × Int32 × Mem) ⊕ (Int32 × Mem)) := (if (50 : Int32) < a20.2.2.2.1 then (some (.inr (a20.1, a20.2.2.2.2))) else (gd (rP a20.2.2.2.2 1 < 12) (gd (rP (wI a20.2.2.2.2 24 (rP a20.2.2.2.2 1) 0 a20.2.2.2.1) 1 < 12) ((fX1_tellAnew (rP (wI a20.2.2.2.2 24 (rP a20.2.2.2.2 1) 0 a20.2.2.2.1) 1) (wI a20.2.2.2.2 24 (rP a20.2.2.2.2 1) 0 a20.2.2.2.1)).bind fun q2 => (if ¬ q2.1 = a20.2.2.1 then ((fX5_netOfSpare q2.2).bind fun q7 => (if a20.2.2.1 = (-1 : Int32) then (jX5_bestOver_71 a20 q2 q7) else (if q7.1 ≤ a20.2.1 then (jX5_bestOver_77 a20 q2 q7 a20.1 a20.2.1) else (jX5_bestOver_71 a20 q2 q7)))) else (jX5_bestOver_80 a20 a20.1 a20.2.1 a20.2.2.1 q2.2))))))
def fX5_bestOver (σ : Mem) : Option (Int32 × Mem) := (gd (rP σ 1 < 12) (gd (rP σ 0 < 12) ((fX1_copy (rP σ 1) (rP σ 0) σ).bind fun q1 => ((loop (stX5_bestOver_20) 5000 ((0 : Int32), (0 : Int32), (-1 : Int32), (0 : Int32), q1)).bind fun b20 => (some (b20.1, b20.2))))))
set_option maxHeartbeats 4000000 in
set_option maxRecDepth 100000 in
theorem okX5_bestOver (l : Launch) (cy : Nat → ClassId) (D : va_G) (B : Nat) (σ μ ω : Mem) (res : Int32 × Mem) (h : fX5_bestOver σ = some res) : CT l cy D B yX5_bestOver cX5_bestOver 7 (some .int) ({ frames := 6, cells := 0, slots := 0, locals := 142 } : Room) [.ref (B + oHB)] σ μ ω (some (.int res.1)) res.2 μ ω := by
  refine met_X (own := "HostelBeds") (by decide) rfl (Nat.le_of_ble_eq_true rfl) ?_
  intro p e s m args below meth c C hrT hlk
  have hret : ∀ (pc9 : Nat) (lcs9 : List (Nat × Value)), decode cX5_bestOver pc9 = .ok (.ireturn, 1) → narrow .int (.int res.1) = .int res.1 → X p l e ({ frames := 6, cells := 0, slots := 0, locals := 142 } : Room) s m args below meth c 7 cy D B 0 0 (MQ below (QR cy D B (some (.int res.1)) res.2 μ ω) args s 0 0 (aB B)) pc9 lcs9 [.int res.1] res.2 μ ω := fun _ _ hd hn => x_zret C hrT hlk hn hd
  generalize MQ below (QR cy D B (some (.int res.1)) res.2 μ ω) args s 0 0 (aB B) = Q at hret ⊢
  obtain ⟨R, hR9⟩ : ∃ R : Room, R = ({ frames := 6, cells := 0, slots := 0, locals := 142 } : Room) := ⟨_, rfl⟩
  rw [← hR9] at hret ⊢
  unfold fX5_bestOver at h
  show X p l e R s m args below meth c 7 cy D B 0 0 Q 0 [(0, .ref (B + oHB))] [] σ μ ω
  refine x_aload_n C dX5_bestOver_0 rfl 0 rfl ?_
  refine x_get C (C1 := "HostelBeds") (T := TX5) (N := 12) (ci := 5) inXg5 _ (c_HB) rfl 3 (by decide) (lw_g_mk tw_290 rfl) rfl dX5_bestOver_1 ?_
  obtain ⟨hg1, h⟩ := gd_some h
  refine x_aload_n C dX5_bestOver_4 rfl 0 rfl ?_
  refine x_get C (C1 := "HostelBeds") (T := TX5) (N := 12) (ci := 5) inXg5 _ (c_HB) rfl 2 (by decide) (lw_g_mk tw_289 rfl) rfl dX5_bestOver_5 ?_
  obtain ⟨hg2, h⟩ := gd_some h
  obtain ⟨q1, hk3, h⟩ := Option.bind_eq_some_iff.mp h
  refine x_callV C (As := [.ref (B + oHo (rP σ 0))]) (rest := []) (lw_g_mk tw_363 rfl) (lw_g_mk tw_364 rfl) (c_Ho hg1) (C1 := "HostelBeds$Hostel") (T := TX1) (N := 12) (ci := 1) rfl (okX1_copy l cy D B (rP σ 1) (rP σ 0) σ μ ω hg1 hg2 _ hk3) rfl rfl (by rw [hR9]; decide) (lw_g_mk tw_365 rfl) (lw_g_mk tw_3 rfl) (by decide) rfl (lw_g_mk tw_362 rfl) rfl (Nat.le_of_ble_eq_true rfl) dX5_bestOver_8 (by rw [hR9]; decide) ?_
  refine x_iconst C (v := 0) dX5_bestOver_11 (by decide) ?_
  refine x_istore_n C [(1, .int (0 : Int32)), (0, .ref (B + oHB))] dX5_bestOver_12 rfl (by decide) rfl ?_
  refine x_iconst C (v := 0) dX5_bestOver_13 (by decide) ?_
  refine x_istore_n C [(2, .int (0 : Int32)), (1, .int (0 : Int32)), (0, .ref (B + oHB))] dX5_bestOver_14 rfl (by decide) rfl ?_
  refine x_iconst C (v := -1) dX5_bestOver_15 (by decide) ?_
  refine x_istore_n C [(3, .int (-1 : Int32)), (2, .int (0 : Int32)), (1, .int (0 : Int32)), (0, .ref (B + oHB))] dX5_bestOver_16 rfl (by decide) rfl ?_
  refine x_iconst C (v := 0) dX5_bestOver_17 (by decide) ?_
  refine x_istore C [(4, .int (0 : Int32)), (3, .int (-1 : Int32)), (2, .int (0 : Int32)), (1, .int (0 : Int32)), (0, .ref (B + oHB))] dX5_bestOver_18 (by decide) rfl ?_
  obtain ⟨b20, hk17, h⟩ := Option.bind_eq_some_iff.mp h
  refine x_sub [4, 3, 2, 1, 0] rfl ?_
  refine loop_run (step := stX5_bestOver_20) (P := fun (a20 : Int32 × Int32 × Int32 × Int32 × Mem) => X p l e R s m args below meth c 7 cy D B 0 0 Q 20 [(0, .ref (B + oHB)), (1, .int a20.1), (2, .int a20.2.1), (3, .int a20.2.2.1), (4, .int a20.2.2.2.1)] [] a20.2.2.2.2 μ ω) (K := fun (b20 : Int32 × Mem) => X p l e R s m args below meth c 7 cy D B 0 0 Q 86 [(1, .int b20.1)] [] b20.2 μ ω) ?_ 5000 ((0 : Int32), (0 : Int32), (-1 : Int32), (0 : Int32), q1) b20 hk17 ?_
  · intro a20 r h hA4 hB5
    unfold stX5_bestOver_20 at h
    refine x_iload C dX5_bestOver_20 4 rfl ?_
    refine x_bipush C (v := 50) dX5_bestOver_22 (by decide) ?_
    refine x_icmp_gt C (tgt := 86) dX5_bestOver_24 (by decide) (fun hc6 => ?_) (fun hc6 => ?_)
    · rw [if_pos hc6] at h
      cases h
      refine x_sub [1] rfl ?_
      exact hB5 (a20.1, a20.2.2.2.2) rfl
    · rw [if_neg hc6] at h
      refine x_aload_n C dX5_bestOver_27 rfl 0 rfl ?_
      refine x_get C (C1 := "HostelBeds") (T := TX5) (N := 12) (ci := 5) inXg5 _ (c_HB) rfl 3 (by decide) (lw_g_mk tw_290 rfl) rfl dX5_bestOver_28 ?_
      obtain ⟨hg7, h⟩ := gd_some h
      refine x_iload C dX5_bestOver_31 4 rfl ?_
      refine x_put C (C1 := "HostelBeds$Hostel") (T := TX1) (N := 12) (ci := 1) inXg1 tyX1 tyX1_ok nmX1 _ (c_Ho hg7) rfl 8 (by decide) (lw_g_mk tw_210 rfl) rfl rfl rfl rfl (Nat.le_of_ble_eq_true rfl) dX5_bestOver_33 (s_Ho_over hg7) ?_
      refine x_aload_n C dX5_bestOver_36 rfl 0 rfl ?_
      refine x_get C (C1 := "HostelBeds") (T := TX5) (N := 12) (ci := 5) inXg5 _ (c_HB) rfl 3 (by decide) (lw_g_mk tw_290 rfl) rfl dX5_bestOver_37 ?_
      obtain ⟨hg8, h⟩ := gd_some h
      obtain ⟨q2, hk9, h⟩ := Option.bind_eq_some_iff.mp h
      refine x_callV C (As := []) (rest := []) (lw_g_mk tw_382 rfl) (lw_g_mk tw_383 rfl) (c_Ho hg8) (C1 := "HostelBeds$Hostel") (T := TX1) (N := 12) (ci := 1) rfl (okX1_tellAnew l cy D B (rP (wI a20.2.2.2.2 24 (rP a20.2.2.2.2 1) 0 a20.2.2.2.1) 1) (wI a20.2.2.2.2 24 (rP a20.2.2.2.2 1) 0 a20.2.2.2.1) μ ω hg8 _ hk9) rfl rfl (by rw [hR9]; decide) (lw_g_mk tw_384 rfl) (lw_g_mk tw_3 rfl) (by decide) rfl (lw_g_mk tw_381 rfl) rfl (Nat.le_of_ble_eq_true rfl) dX5_bestOver_40 (by rw [hR9]; decide) ?_
      refine x_istore C [(5, .int q2.1), (0, .ref (B + oHB)), (1, .int a20.1), (2, .int a20.2.1), (3, .int a20.2.2.1), (4, .int a20.2.2.2.1)] dX5_bestOver_43 (by decide) rfl ?_
      refine x_iload C dX5_bestOver_45 0 rfl ?_
      refine x_iload_n C dX5_bestOver_47 rfl 4 rfl ?_
      have hJ10 : ∀ (x3 : Int32) (x4 : Int32) (x5 : Int32) (σ6 : Mem) (r9 : (Int32 × Int32 × Int32 × Int32 × Mem) ⊕ (Int32 × Mem)), jX5_bestOver_80 a20 x3 x4 x5 σ6 = some r9 → (∀ a2, r9 = .inl a2 → (fun (a20 : Int32 × Int32 × Int32 × Int32 × Mem) => X p l e R s m args below meth c 7 cy D B 0 0 Q 20 [(0, .ref (B + oHB)), (1, .int a20.1), (2, .int a20.2.1), (3, .int a20.2.2.1), (4, .int a20.2.2.2.1)] [] a20.2.2.2.2 μ ω) a2) → (∀ b2, r9 = .inr b2 → (fun (b20 : Int32 × Mem) => X p l e R s m args below meth c 7 cy D B 0 0 Q 86 [(1, .int b20.1)] [] b20.2 μ ω) b2) → X p l e R s m args below meth c 7 cy D B 0 0 Q 80 [(0, .ref (B + oHB)), (1, .int x3), (2, .int x4), (3, .int x5), (4, .int a20.2.2.2.1)] [] σ6 μ ω := by
        intro x3 x4 x5 σ6 r h hA4 hB5
        unfold jX5_bestOver_80 at h
        refine x_iinc C (k := 4) [(4, .int (a20.2.2.2.1 + (1 : Int32))), (0, .ref (B + oHB)), (1, .int x3), (2, .int x4), (3, .int x5)] dX5_bestOver_80 rfl rfl (by decide) rfl ?_
        refine x_goto C (tgt := 20) dX5_bestOver_83 (by decide) ?_
        cases h
        refine x_sub [1, 2, 3, 4, 0] rfl ?_
        exact hA4 (x3, x4, x5, a20.2.2.2.1 + (1 : Int32), σ6) rfl
      refine x_icmp_ne C (tgt := 54) dX5_bestOver_48 (by decide) (fun hc11 => ?_) (fun hc11 => ?_)
      · rw [if_pos hc11] at h
        refine x_aload_n C dX5_bestOver_54 rfl 1 rfl ?_
        obtain ⟨q7, hk12, h⟩ := Option.bind_eq_some_iff.mp h
        refine x_callV C (As := []) (rest := []) (lw_g_mk tw_410 rfl) (lw_g_mk tsel_1 rfl) (c_HB) (C1 := "HostelBeds") (T := TX5) (N := 12) (ci := 5) rfl (okX5_netOfSpare l cy D B q2.2 μ ω _ hk12) rfl rfl (by rw [hR9]; decide) (lw_g_mk tw_411 rfl) (lw_g_mk tw_1 rfl) (by decide) rfl (lw_g_mk tw_408 rfl) rfl (Nat.le_of_ble_eq_true rfl) dX5_bestOver_55 (by rw [hR9]; decide) ?_
        refine x_istore C [(6, .int q7.1), (5, .int q2.1), (0, .ref (B + oHB)), (1, .int a20.1), (2, .int a20.2.1), (3, .int a20.2.2.1), (4, .int a20.2.2.2.1)] dX5_bestOver_58 (by decide) rfl ?_
        refine x_iload_n C dX5_bestOver_60 rfl 5 rfl ?_
        refine x_iconst C (v := -1) dX5_bestOver_61 (by decide) ?_
        have hJ13 : ∀ (x8 : Int32) (x9 : Int32) (r9 : (Int32 × Int32 × Int32 × Int32 × Mem) ⊕ (Int32 × Mem)), jX5_bestOver_77 a20 q2 q7 x8 x9 = some r9 → (∀ a2, r9 = .inl a2 → (fun (a20 : Int32 × Int32 × Int32 × Int32 × Mem) => X p l e R s m args below meth c 7 cy D B 0 0 Q 20 [(0, .ref (B + oHB)), (1, .int a20.1), (2, .int a20.2.1), (3, .int a20.2.2.1), (4, .int a20.2.2.2.1)] [] a20.2.2.2.2 μ ω) a2) → (∀ b2, r9 = .inr b2 → (fun (b20 : Int32 × Mem) => X p l e R s m args below meth c 7 cy D B 0 0 Q 86 [(1, .int b20.1)] [] b20.2 μ ω) b2) → X p l e R s m args below meth c 7 cy D B 0 0 Q 77 [(0, .ref (B + oHB)), (1, .int x8), (2, .int x9), (4, .int a20.2.2.2.1), (5, .int q2.1)] [] q7.2 μ ω := by
          intro x8 x9 r h hA4 hB5
          unfold jX5_bestOver_77 at h
          refine x_iload C dX5_bestOver_77 4 rfl ?_
          refine x_istore_n C [(3, .int q2.1), (0, .ref (B + oHB)), (1, .int x8), (2, .int x9), (4, .int a20.2.2.2.1), (5, .int q2.1)] dX5_bestOver_79 rfl (by decide) rfl ?_
          refine x_sub [1, 2, 3, 0, 4] rfl ?_
          exact hJ10 x8 x9 q2.1 q7.2 _ h hA4 hB5
        have hJ14 : ∀ (r9 : (Int32 × Int32 × Int32 × Int32 × Mem) ⊕ (Int32 × Mem)), jX5_bestOver_71 a20 q2 q7 = some r9 → (∀ a2, r9 = .inl a2 → (fun (a20 : Int32 × Int32 × Int32 × Int32 × Mem) => X p l e R s m args below meth c 7 cy D B 0 0 Q 20 [(0, .ref (B + oHB)), (1, .int a20.1), (2, .int a20.2.1), (3, .int a20.2.2.1), (4, .int a20.2.2.2.1)] [] a20.2.2.2.2 μ ω) a2) → (∀ b2, r9 = .inr b2 → (fun (b20 : Int32 × Mem) => X p l e R s m args below meth c 7 cy D B 0 0 Q 86 [(1, .int b20.1)] [] b20.2 μ ω) b2) → X p l e R s m args below meth c 7 cy D B 0 0 Q 71 [(0, .ref (B + oHB)), (4, .int a20.2.2.2.1), (5, .int q2.1), (6, .int q7.1)] [] q7.2 μ ω := by
          intro r h hA4 hB5
          unfold jX5_bestOver_71 at h
          refine x_iload C dX5_bestOver_71 1 rfl ?_
          refine x_istore_n C [(1, .int a20.2.2.2.1), (0, .ref (B + oHB)), (4, .int a20.2.2.2.1), (5, .int q2.1), (6, .int q7.1)] dX5_bestOver_73 rfl (by decide) rfl ?_
          refine x_iload C dX5_bestOver_74 4 rfl ?_
          refine x_istore_n C [(2, .int q7.1), (1, .int a20.2.2.2.1), (0, .ref (B + oHB)), (4, .int a20.2.2.2.1), (5, .int q2.1), (6, .int q7.1)] dX5_bestOver_76 rfl (by decide) rfl ?_
          refine x_sub [2, 1, 0, 3, 4] rfl ?_
          exact hJ13 a20.2.2.2.1 q7.1 _ h hA4 hB5
        refine x_icmp_eq C (tgt := 71) dX5_bestOver_62 (by decide) (fun hc15 => ?_) (fun hc15 => ?_)
        · rw [if_pos hc15] at h
          refine x_sub [2, 6, 1, 0] rfl ?_
          exact hJ14 _ h hA4 hB5
        · rw [if_neg hc15] at h
          refine x_iload C dX5_bestOver_65 0 rfl ?_
          refine x_iload_n C dX5_bestOver_67 rfl 4 rfl ?_
          refine x_icmp_le C (tgt := 77) dX5_bestOver_68 (by decide) (fun hc16 => ?_) (fun hc16 => ?_)
          · rw [if_pos hc16] at h
            refine x_sub [2, 3, 4, 6, 1] rfl ?_
            exact hJ13 a20.1 a20.2.1 _ h hA4 hB5
          · rw [if_neg hc16] at h
            refine x_sub [2, 6, 1, 0] rfl ?_
            exact hJ14 _ h hA4 hB5
      · rw [if_neg hc11] at h
        refine x_goto C (tgt := 80) dX5_bestOver_51 (by decide) ?_
        refine x_sub [1, 2, 3, 4, 5] rfl ?_
        exact hJ10 a20.1 a20.2.1 a20.2.2.1 q2.2 _ h hA4 hB5
  · show X p l e R s m args below meth c 7 cy D B 0 0 Q 86 [(1, .int b20.1)] [] b20.2 μ ω
    refine x_iload_n C dX5_bestOver_86 rfl 0 rfl ?_
    cases h
    exact hret _ _ dX5_bestOver_87 rfl
def jX5_remember_41 (q1 : Mem) (t2 : Int32) : Option (Mem) := (some (wI (wI q1 2 0 0 t2) 3 0 0 (if (10 : Int32) < ((rI (wI q1 2 0 0 t2) 3 0 0) + (1 : Int32)) then (10 : Int32) else ((rI (wI q1 2 0 0 t2) 3 0 0) + (1 : Int32)))))
def fX5_remember (σ : Mem) : Option (Mem) := (gd (inb (rI σ 2 0 0) 10) (gd (rP σ 0 < 12) ((fX1_copy ((rI σ 2 0 0).toNatClampNeg + 2) (rP σ 0) σ).bind fun q1 => (if ¬ (rI q1 2 0 0) = ((10 : Int32) - (1 : Int32)) then (jX5_remember_41 q1 ((rI q1 2 0 0) + (1 : Int32))) else (jX5_remember_41 q1 (0 : Int32))))))
set_option maxHeartbeats 4000000 in
set_option maxRecDepth 100000 in
theorem okX5_remember (l : Launch) (cy : Nat → ClassId) (D : va_G) (B : Nat) (σ μ ω : Mem) (res : Mem) (h : fX5_remember σ = some res) : CT l cy D B yX5_remember cX5_remember 1 none ({ frames := 3, cells := 0, slots := 0, locals := 69 } : Room) [.ref (B + oHB)] σ μ ω none res μ ω := by
  refine met_X (own := "HostelBeds") (by decide) rfl (Nat.le_of_ble_eq_true rfl) ?_
  intro p e s m args below meth c C hrT hlk
  have hret : ∀ (pc9 : Nat) (lcs9 : List (Nat × Value)), decode cX5_remember pc9 = .ok (.return_, 1) → X p l e ({ frames := 3, cells := 0, slots := 0, locals := 69 } : Room) s m args below meth c 1 cy D B 0 0 (MQ below (QR cy D B none res μ ω) args s 0 0 (aB B)) pc9 lcs9 [] res μ ω := fun _ _ hd => x_vret C hrT hlk hd
  generalize MQ below (QR cy D B none res μ ω) args s 0 0 (aB B) = Q at hret ⊢
  obtain ⟨R, hR9⟩ : ∃ R : Room, R = ({ frames := 3, cells := 0, slots := 0, locals := 69 } : Room) := ⟨_, rfl⟩
  rw [← hR9] at hret ⊢
  unfold fX5_remember at h
  show X p l e R s m args below meth c 1 cy D B 0 0 Q 0 [(0, .ref (B + oHB))] [] σ μ ω
  refine x_aload_n C dX5_remember_0 rfl 0 rfl ?_
  refine x_get C (C1 := "HostelBeds") (T := TX5) (N := 12) (ci := 5) inXg5 _ (c_HB) rfl 6 (by decide) (lw_g_mk tw_293 rfl) rfl dX5_remember_1 ?_
  refine x_aload_n C dX5_remember_4 rfl 0 rfl ?_
  refine x_get C (C1 := "HostelBeds") (T := TX5) (N := 12) (ci := 5) inXg5 _ (c_HB) rfl 7 (by decide) (lw_g_mk tw_294 rfl) rfl dX5_remember_5 ?_
  obtain ⟨hg1, h⟩ := gd_some h
  refine x_aldq C _ 7 (C1 := "HostelBeds$Hostel") (c_Past) rfl hg1 rfl dX5_remember_8 ?_
  refine x_aload_n C dX5_remember_9 rfl 0 rfl ?_
  refine x_get C (C1 := "HostelBeds") (T := TX5) (N := 12) (ci := 5) inXg5 _ (c_HB) rfl 2 (by decide) (lw_g_mk tw_289 rfl) rfl dX5_remember_10 ?_
  obtain ⟨hg2, h⟩ := gd_some h
  obtain ⟨q1, hk3, h⟩ := Option.bind_eq_some_iff.mp h
  refine x_callV C (As := [.ref (B + oHo (rP σ 0))]) (rest := []) (lw_g_mk tw_363 rfl) (lw_g_mk tw_364 rfl) (c_Ho (past_lt hg1)) (C1 := "HostelBeds$Hostel") (T := TX1) (N := 12) (ci := 1) rfl (okX1_copy l cy D B ((rI σ 2 0 0).toNatClampNeg + 2) (rP σ 0) σ μ ω (past_lt hg1) hg2 _ hk3) rfl rfl (by rw [hR9]; decide) (lw_g_mk tw_365 rfl) (lw_g_mk tw_3 rfl) (by decide) rfl (lw_g_mk tw_362 rfl) rfl (Nat.le_of_ble_eq_true rfl) dX5_remember_13 (by rw [hR9]; decide) ?_
  refine x_aload_n C dX5_remember_16 rfl 0 rfl ?_
  refine x_aload_n C dX5_remember_17 rfl 0 rfl ?_
  refine x_get C (C1 := "HostelBeds") (T := TX5) (N := 12) (ci := 5) inXg5 _ (c_HB) rfl 7 (by decide) (lw_g_mk tw_294 rfl) rfl dX5_remember_18 ?_
  refine x_aload_n C dX5_remember_21 rfl 0 rfl ?_
  refine x_get C (C1 := "HostelBeds") (T := TX5) (N := 12) (ci := 5) inXg5 _ (c_HB) rfl 6 (by decide) (lw_g_mk tw_293 rfl) rfl dX5_remember_22 ?_
  refine x_alen C _ 7 (c_Past) rfl (v := 10) rfl dX5_remember_25 ?_
  refine x_iconst C (v := 1) dX5_remember_26 (by decide) ?_
  refine x_isub C dX5_remember_27 ?_
  have hJ4 : ∀ (t2 : Int32) (r9 : Mem), jX5_remember_41 q1 t2 = some r9 → (∀ (pc9 : Nat) (lcs9 : List (Nat × Value)), decode cX5_remember pc9 = .ok (.return_, 1) → X p l e R s m args below meth c 1 cy D B 0 0 Q pc9 lcs9 [] r9 μ ω) → X p l e R s m args below meth c 1 cy D B 0 0 Q 41 [(0, .ref (B + oHB))] [.int t2, .ref (B + oHB)] q1 μ ω := by
    intro t2 res9 h hret
    unfold jX5_remember_41 at h
    refine x_put C (C1 := "HostelBeds") (T := TX5) (N := 12) (ci := 5) inXg5 tyX5 tyX5_ok nmX5 _ (c_HB) rfl 7 (by decide) (lw_g_mk tw_294 rfl) rfl rfl rfl rfl (Nat.le_of_ble_eq_true rfl) dX5_remember_41 (s_HB_pastNext) ?_
    refine x_aload_n C dX5_remember_44 rfl 0 rfl ?_
    refine x_aload_n C dX5_remember_45 rfl 0 rfl ?_
    refine x_get C (C1 := "HostelBeds") (T := TX5) (N := 12) (ci := 5) inXg5 _ (c_HB) rfl 8 (by decide) (lw_g_mk tw_295 rfl) rfl dX5_remember_46 ?_
    refine x_iconst C (v := 1) dX5_remember_49 (by decide) ?_
    refine x_iadd C dX5_remember_50 ?_
    refine x_aload_n C dX5_remember_51 rfl 0 rfl ?_
    refine x_get C (C1 := "HostelBeds") (T := TX5) (N := 12) (ci := 5) inXg5 _ (c_HB) rfl 6 (by decide) (lw_g_mk tw_293 rfl) rfl dX5_remember_52 ?_
    refine x_alen C _ 7 (c_Past) rfl (v := 10) rfl dX5_remember_55 ?_
    refine x_mmin C (lw_g_mk tw_1032 rfl) (lw_g_mk tw_406 rfl) (lw_g_mk tw_17 rfl) (lw_g_mk tw_407 rfl) (by rw [hR9]; decide) (by rw [hR9]; exact Nat.le_of_ble_eq_true rfl) (by rw [hR9]; decide) dX5_remember_56 ?_
    refine x_put C (C1 := "HostelBeds") (T := TX5) (N := 12) (ci := 5) inXg5 tyX5 tyX5_ok nmX5 _ (c_HB) rfl 8 (by decide) (lw_g_mk tw_295 rfl) rfl rfl rfl rfl (Nat.le_of_ble_eq_true rfl) dX5_remember_59 (s_HB_pastCount) ?_
    cases h
    exact hret _ _ dX5_remember_62
  refine x_icmp_ne C (tgt := 35) dX5_remember_28 (by decide) (fun hc5 => ?_) (fun hc5 => ?_)
  · rw [if_pos hc5] at h
    refine x_aload_n C dX5_remember_35 rfl 0 rfl ?_
    refine x_get C (C1 := "HostelBeds") (T := TX5) (N := 12) (ci := 5) inXg5 _ (c_HB) rfl 7 (by decide) (lw_g_mk tw_294 rfl) rfl dX5_remember_36 ?_
    refine x_iconst C (v := 1) dX5_remember_39 (by decide) ?_
    refine x_iadd C dX5_remember_40 ?_
    exact hJ4 ((rI q1 2 0 0) + (1 : Int32)) _ h hret
  · rw [if_neg hc5] at h
    refine x_iconst C (v := 0) dX5_remember_31 (by decide) ?_
    refine x_goto C (tgt := 41) dX5_remember_32 (by decide) ?_
    exact hJ4 (0 : Int32) _ h hret
def fX5_putSign (p1 : Int32) (σ : Mem) : Option (Mem) := (if (160 : Int32) ≤ (rI σ 4 0 0) then (some σ) else (gd (inb (rI σ 4 0 0) 160) (some (wI (wI σ 5 0 (rI σ 4 0 0).toNatClampNeg (vp_nar .char p1)) 4 0 0 ((rI (wI σ 5 0 (rI σ 4 0 0).toNatClampNeg (vp_nar .char p1)) 4 0 0) + (1 : Int32))))))
set_option maxHeartbeats 4000000 in
set_option maxRecDepth 100000 in
theorem okX5_putSign (l : Launch) (cy : Nat → ClassId) (D : va_G) (B : Nat) (p1 : Int32) (σ μ ω : Mem) (res : Mem) (h : fX5_putSign p1 σ = some res) : CT l cy D B yX5_putSign cX5_putSign 2 none ({ frames := 0, cells := 0, slots := 0, locals := 0 } : Room) [.ref (B + oHB), .int p1] σ μ ω none res μ ω := by
  refine met_X (own := "HostelBeds") (by decide) rfl (Nat.le_of_ble_eq_true rfl) ?_
  intro p e s m args below meth c C hrT hlk
  have hret : ∀ (pc9 : Nat) (lcs9 : List (Nat × Value)), decode cX5_putSign pc9 = .ok (.return_, 1) → X p l e ({ frames := 0, cells := 0, slots := 0, locals := 0 } : Room) s m args below meth c 2 cy D B 0 0 (MQ below (QR cy D B none res μ ω) args s 0 0 (aB B)) pc9 lcs9 [] res μ ω := fun _ _ hd => x_vret C hrT hlk hd
  generalize MQ below (QR cy D B none res μ ω) args s 0 0 (aB B) = Q at hret ⊢
  obtain ⟨R, hR9⟩ : ∃ R : Room, R = ({ frames := 0, cells := 0, slots := 0, locals := 0 } : Room) := ⟨_, rfl⟩
  rw [← hR9] at hret ⊢
  unfold fX5_putSign at h
  show X p l e R s m args below meth c 2 cy D B 0 0 Q 0 [(0, .ref (B + oHB)), (1, .int p1)] [] σ μ ω
  refine x_aload_n C dX5_putSign_0 rfl 0 rfl ?_
  refine x_get C (C1 := "HostelBeds") (T := TX5) (N := 12) (ci := 5) inXg5 _ (c_HB) rfl 11 (by decide) (lw_g_mk tw_298 rfl) rfl dX5_putSign_1 ?_
  refine x_aload_n C dX5_putSign_4 rfl 0 rfl ?_
  refine x_get C (C1 := "HostelBeds") (T := TX5) (N := 12) (ci := 5) inXg5 _ (c_HB) rfl 10 (by decide) (lw_g_mk tw_297 rfl) rfl dX5_putSign_5 ?_
  refine x_alen C _ 3 (c_Signs) rfl (v := 160) rfl dX5_putSign_8 ?_
  refine x_icmp_ge C (tgt := 32) dX5_putSign_9 (by decide) (fun hc1 => ?_) (fun hc1 => ?_)
  · rw [if_pos hc1] at h
    cases h
    exact hret _ _ dX5_putSign_32
  · rw [if_neg hc1] at h
    refine x_aload_n C dX5_putSign_12 rfl 0 rfl ?_
    refine x_get C (C1 := "HostelBeds") (T := TX5) (N := 12) (ci := 5) inXg5 _ (c_HB) rfl 10 (by decide) (lw_g_mk tw_297 rfl) rfl dX5_putSign_13 ?_
    refine x_aload_n C dX5_putSign_16 rfl 0 rfl ?_
    refine x_get C (C1 := "HostelBeds") (T := TX5) (N := 12) (ci := 5) inXg5 _ (c_HB) rfl 11 (by decide) (lw_g_mk tw_298 rfl) rfl dX5_putSign_17 ?_
    refine x_iload_n C dX5_putSign_20 rfl 1 rfl ?_
    obtain ⟨hg2, h⟩ := gd_some h
    refine x_cast C _ (c_Signs) hg2 dX5_putSign_21 (s_Signs) ?_
    refine x_aload_n C dX5_putSign_22 rfl 0 rfl ?_
    refine x_dup C dX5_putSign_23 rfl ?_
    refine x_get C (C1 := "HostelBeds") (T := TX5) (N := 12) (ci := 5) inXg5 _ (c_HB) rfl 11 (by decide) (lw_g_mk tw_298 rfl) rfl dX5_putSign_24 ?_
    refine x_iconst C (v := 1) dX5_putSign_27 (by decide) ?_
    refine x_iadd C dX5_putSign_28 ?_
    refine x_put C (C1 := "HostelBeds") (T := TX5) (N := 12) (ci := 5) inXg5 tyX5 tyX5_ok nmX5 _ (c_HB) rfl 11 (by decide) (lw_g_mk tw_298 rfl) rfl rfl rfl rfl (Nat.le_of_ble_eq_true rfl) dX5_putSign_29 (s_HB_signCount) ?_
    cases h
    exact hret _ _ dX5_putSign_32
def jX5_putName_29 (a3 : Int32 × Mem) (σ1 : Mem) : Option ((Int32 × Mem) ⊕ (Mem)) := (some (.inl (a3.1 + (-8 : Int32), σ1)))
def stX5_putName_3 (p1 : Int64) (a3 : Int32 × Mem) : Option ((Int32 × Mem) ⊕ (Mem)) := (if a3.1 < 0 then (some (.inr a3.2)) else (if ((((p1.toUInt64 >>> (a3.1.toInt64.toUInt64 &&& Int64.toUInt64 63)).toInt64).toInt32) &&& (255 : Int32)) = 0 then (jX5_putName_29 a3 a3.2) else ((fX5_putSign ((((((p1.toUInt64 >>> (a3.1.toInt64.toUInt64 &&& Int64.toUInt64 63)).toInt64).toInt32) &&& (255 : Int32)).toUInt32 % 65536).toInt32) a3.2).bind fun q2 => (jX5_putName_29 a3 q2))))
def fX5_putName (p1 : Int64) (σ : Mem) : Option (Mem) := ((loop (stX5_putName_3 p1) 5000 ((56 : Int32), σ)).bind fun b3 => (some b3))
set_option maxHeartbeats 4000000 in
set_option maxRecDepth 100000 in
theorem okX5_putName (l : Launch) (cy : Nat → ClassId) (D : va_G) (B : Nat) (p1 : Int64) (σ μ ω : Mem) (res : Mem) (h : fX5_putName p1 σ = some res) : CT l cy D B yX5_putName cX5_putName 5 none ({ frames := 1, cells := 0, slots := 0, locals := 21 } : Room) [.ref (B + oHB), .long p1] σ μ ω none res μ ω := by
  refine met_X (own := "HostelBeds") (by decide) rfl (Nat.le_of_ble_eq_true rfl) ?_
  intro p e s m args below meth c C hrT hlk
  have hret : ∀ (pc9 : Nat) (lcs9 : List (Nat × Value)), decode cX5_putName pc9 = .ok (.return_, 1) → X p l e ({ frames := 1, cells := 0, slots := 0, locals := 21 } : Room) s m args below meth c 5 cy D B 0 0 (MQ below (QR cy D B none res μ ω) args s 0 0 (aB B)) pc9 lcs9 [] res μ ω := fun _ _ hd => x_vret C hrT hlk hd
  generalize MQ below (QR cy D B none res μ ω) args s 0 0 (aB B) = Q at hret ⊢
  obtain ⟨R, hR9⟩ : ∃ R : Room, R = ({ frames := 1, cells := 0, slots := 0, locals := 21 } : Room) := ⟨_, rfl⟩
  rw [← hR9] at hret ⊢
  unfold fX5_putName at h
  show X p l e R s m args below meth c 5 cy D B 0 0 Q 0 [(0, .ref (B + oHB)), (1, .long p1)] [] σ μ ω
  refine x_bipush C (v := 56) dX5_putName_0 (by decide) ?_
  refine x_istore_n C [(3, .int (56 : Int32)), (0, .ref (B + oHB)), (1, .long p1)] dX5_putName_2 rfl (by decide) rfl ?_
  obtain ⟨b3, hk7, h⟩ := Option.bind_eq_some_iff.mp h
  refine x_sub [1, 2, 0] rfl ?_
  refine loop_run (step := stX5_putName_3 p1) (P := fun (a3 : Int32 × Mem) => X p l e R s m args below meth c 5 cy D B 0 0 Q 3 [(0, .ref (B + oHB)), (1, .long p1), (3, .int a3.1)] [] a3.2 μ ω) (K := fun (b3 : Mem) => X p l e R s m args below meth c 5 cy D B 0 0 Q 35 [] [] b3 μ ω) ?_ 5000 ((56 : Int32), σ) b3 hk7 ?_
  · intro a3 r h hA1 hB2
    unfold stX5_putName_3 at h
    refine x_iload_n C dX5_putName_3 rfl 2 rfl ?_
    refine x_if_lt C (tgt := 35) dX5_putName_4 (by decide) (fun hc3 => ?_) (fun hc3 => ?_)
    · rw [if_pos hc3] at h
      cases h
      refine x_sub [] rfl ?_
      exact hB2 a3.2 rfl
    · rw [if_neg hc3] at h
      refine x_lload_n C dX5_putName_7 rfl 1 rfl ?_
      refine x_iload_n C dX5_putName_8 rfl 2 rfl ?_
      refine x_lushr C dX5_putName_9 ?_
      refine x_l2i C dX5_putName_10 ?_
      refine x_sipush C (v := 255) dX5_putName_11 (by decide) ?_
      refine x_iand C dX5_putName_14 ?_
      refine x_istore C [(4, .int ((((p1.toUInt64 >>> (a3.1.toInt64.toUInt64 &&& Int64.toUInt64 63)).toInt64).toInt32) &&& (255 : Int32))), (0, .ref (B + oHB)), (1, .long p1), (3, .int a3.1)] dX5_putName_15 (by decide) rfl ?_
      refine x_iload C dX5_putName_17 0 rfl ?_
      have hJ4 : ∀ (σ1 : Mem) (r9 : (Int32 × Mem) ⊕ (Mem)), jX5_putName_29 a3 σ1 = some r9 → (∀ a2, r9 = .inl a2 → (fun (a3 : Int32 × Mem) => X p l e R s m args below meth c 5 cy D B 0 0 Q 3 [(0, .ref (B + oHB)), (1, .long p1), (3, .int a3.1)] [] a3.2 μ ω) a2) → (∀ b2, r9 = .inr b2 → (fun (b3 : Mem) => X p l e R s m args below meth c 5 cy D B 0 0 Q 35 [] [] b3 μ ω) b2) → X p l e R s m args below meth c 5 cy D B 0 0 Q 29 [(0, .ref (B + oHB)), (1, .long p1), (3, .int a3.1)] [] σ1 μ ω := by
        intro σ1 r h hA1 hB2
        unfold jX5_putName_29 at h
        refine x_iinc C (k := 2) [(3, .int (a3.1 + (-8 : Int32))), (0, .ref (B + oHB)), (1, .long p1)] dX5_putName_29 rfl rfl (by decide) rfl ?_
        refine x_goto C (tgt := 3) dX5_putName_32 (by decide) ?_
        cases h
        refine x_sub [1, 2, 0] rfl ?_
        exact hA1 (a3.1 + (-8 : Int32), σ1) rfl
      refine x_if_eq C (tgt := 29) dX5_putName_19 (by decide) (fun hc5 => ?_) (fun hc5 => ?_)
      · rw [if_pos hc5] at h
        refine x_sub [1, 2, 3] rfl ?_
        exact hJ4 a3.2 _ h hA1 hB2
      · rw [if_neg hc5] at h
        refine x_aload_n C dX5_putName_22 rfl 1 rfl ?_
        refine x_iload C dX5_putName_23 0 rfl ?_
        refine x_i2c C dX5_putName_25 ?_
        obtain ⟨q2, hk6, h⟩ := Option.bind_eq_some_iff.mp h
        refine x_callV C (As := [.int ((((((p1.toUInt64 >>> (a3.1.toInt64.toUInt64 &&& Int64.toUInt64 63)).toInt64).toInt32) &&& (255 : Int32)).toUInt32 % 65536).toInt32)]) (rest := []) (lw_g_mk tw_1095 rfl) (lw_g_mk tsel_12 rfl) (c_HB) (C1 := "HostelBeds") (T := TX5) (N := 12) (ci := 5) rfl (okX5_putSign l cy D B ((((((p1.toUInt64 >>> (a3.1.toInt64.toUInt64 &&& Int64.toUInt64 63)).toInt64).toInt32) &&& (255 : Int32)).toUInt32 % 65536).toInt32) a3.2 μ ω _ hk6) rfl rfl (by rw [hR9]; decide) (lw_g_mk tw_1096 rfl) (lw_g_mk tw_1 rfl) (by decide) rfl (lw_g_mk tw_1093 rfl) rfl (Nat.le_of_ble_eq_true rfl) dX5_putName_26 (by rw [hR9]; decide) ?_
        refine x_sub [1, 2, 3] rfl ?_
        exact hJ4 q2 _ h hA1 hB2
  · show X p l e R s m args below meth c 5 cy D B 0 0 Q 35 [] [] b3 μ ω
    cases h
    exact hret _ _ dX5_putName_35
def jX5_putNumber_39 (p1 : Int32) (σ2 : Mem) : Option (Mem) := ((fX5_putSign ((((48 : Int32) + (p1 - p1 / (10 : Int32) * (10 : Int32))).toUInt32 % 65536).toInt32) σ2).bind fun q3 => (some q3))
def jX5_putNumber_18 (p1 : Int32) (σ1 : Mem) : Option (Mem) := (if p1 < (10 : Int32) then (jX5_putNumber_39 p1 σ1) else ((fX5_putSign ((((48 : Int32) + ((p1 / (10 : Int32)) - (p1 / (10 : Int32)) / (10 : Int32) * (10 : Int32))).toUInt32 % 65536).toInt32) σ1).bind fun q4 => (jX5_putNumber_39 p1 q4)))
def fX5_putNumber (p1 : Int32) (σ : Mem) : Option (Mem) := (if p1 < (100 : Int32) then (jX5_putNumber_18 p1 σ) else ((fX5_putSign ((((48 : Int32) + (p1 / (100 : Int32))).toUInt32 % 65536).toInt32) σ).bind fun q5 => (jX5_putNumber_18 p1 q5)))
set_option maxHeartbeats 4000000 in
set_option maxRecDepth 100000 in
theorem okX5_putNumber (l : Launch) (cy : Nat → ClassId) (D : va_G) (B : Nat) (p1 : Int32) (σ μ ω : Mem) (res : Mem) (h : fX5_putNumber p1 σ = some res) : CT l cy D B yX5_putNumber cX5_putNumber 2 none ({ frames := 1, cells := 0, slots := 0, locals := 21 } : Room) [.ref (B + oHB), .int p1] σ μ ω none res μ ω := by
  refine met_X (own := "HostelBeds") (by decide) rfl (Nat.le_of_ble_eq_true rfl) ?_
  intro p e s m args below meth c C hrT hlk
  have hret : ∀ (pc9 : Nat) (lcs9 : List (Nat × Value)), decode cX5_putNumber pc9 = .ok (.return_, 1) → X p l e ({ frames := 1, cells := 0, slots := 0, locals := 21 } : Room) s m args below meth c 2 cy D B 0 0 (MQ below (QR cy D B none res μ ω) args s 0 0 (aB B)) pc9 lcs9 [] res μ ω := fun _ _ hd => x_vret C hrT hlk hd
  generalize MQ below (QR cy D B none res μ ω) args s 0 0 (aB B) = Q at hret ⊢
  obtain ⟨R, hR9⟩ : ∃ R : Room, R = ({ frames := 1, cells := 0, slots := 0, locals := 21 } : Room) := ⟨_, rfl⟩
  rw [← hR9] at hret ⊢
  unfold fX5_putNumber at h
  show X p l e R s m args below meth c 2 cy D B 0 0 Q 0 [(0, .ref (B + oHB)), (1, .int p1)] [] σ μ ω
  refine x_iload_n C dX5_putNumber_0 rfl 1 rfl ?_
  refine x_bipush C (v := 100) dX5_putNumber_1 (by decide) ?_
  have hJ5 : ∀ (σ1 : Mem) (r9 : Mem), jX5_putNumber_18 p1 σ1 = some r9 → (∀ (pc9 : Nat) (lcs9 : List (Nat × Value)), decode cX5_putNumber pc9 = .ok (.return_, 1) → X p l e R s m args below meth c 2 cy D B 0 0 Q pc9 lcs9 [] r9 μ ω) → X p l e R s m args below meth c 2 cy D B 0 0 Q 18 [(0, .ref (B + oHB)), (1, .int p1)] [] σ1 μ ω := by
    intro σ1 res9 h hret
    unfold jX5_putNumber_18 at h
    refine x_iload_n C dX5_putNumber_18 rfl 1 rfl ?_
    refine x_bipush C (v := 10) dX5_putNumber_19 (by decide) ?_
    have hJ2 : ∀ (σ2 : Mem) (r9 : Mem), jX5_putNumber_39 p1 σ2 = some r9 → (∀ (pc9 : Nat) (lcs9 : List (Nat × Value)), decode cX5_putNumber pc9 = .ok (.return_, 1) → X p l e R s m args below meth c 2 cy D B 0 0 Q pc9 lcs9 [] r9 μ ω) → X p l e R s m args below meth c 2 cy D B 0 0 Q 39 [(0, .ref (B + oHB)), (1, .int p1)] [] σ2 μ ω := by
      intro σ2 res9 h hret
      unfold jX5_putNumber_39 at h
      refine x_aload_n C dX5_putNumber_39 rfl 0 rfl ?_
      refine x_bipush C (v := 48) dX5_putNumber_40 (by decide) ?_
      refine x_iload_n C dX5_putNumber_42 rfl 1 rfl ?_
      refine x_bipush C (v := 10) dX5_putNumber_43 (by decide) ?_
      refine x_irem C dX5_putNumber_45 (by decide) ?_
      refine x_iadd C dX5_putNumber_46 ?_
      refine x_i2c C dX5_putNumber_47 ?_
      obtain ⟨q3, hk1, h⟩ := Option.bind_eq_some_iff.mp h
      refine x_callV C (As := [.int ((((48 : Int32) + (p1 - p1 / (10 : Int32) * (10 : Int32))).toUInt32 % 65536).toInt32)]) (rest := []) (lw_g_mk tw_1095 rfl) (lw_g_mk tsel_12 rfl) (c_HB) (C1 := "HostelBeds") (T := TX5) (N := 12) (ci := 5) rfl (okX5_putSign l cy D B ((((48 : Int32) + (p1 - p1 / (10 : Int32) * (10 : Int32))).toUInt32 % 65536).toInt32) σ2 μ ω _ hk1) rfl rfl (by rw [hR9]; decide) (lw_g_mk tw_1096 rfl) (lw_g_mk tw_1 rfl) (by decide) rfl (lw_g_mk tw_1093 rfl) rfl (Nat.le_of_ble_eq_true rfl) dX5_putNumber_48 (by rw [hR9]; decide) ?_
      cases h
      exact hret _ _ dX5_putNumber_51
    refine x_icmp_lt C (tgt := 39) dX5_putNumber_21 (by decide) (fun hc3 => ?_) (fun hc3 => ?_)
    · rw [if_pos hc3] at h
      exact hJ2 σ1 _ h hret
    · rw [if_neg hc3] at h
      refine x_aload_n C dX5_putNumber_24 rfl 0 rfl ?_
      refine x_bipush C (v := 48) dX5_putNumber_25 (by decide) ?_
      refine x_iload_n C dX5_putNumber_27 rfl 1 rfl ?_
      refine x_bipush C (v := 10) dX5_putNumber_28 (by decide) ?_
      refine x_idiv C dX5_putNumber_30 (by decide) ?_
      refine x_bipush C (v := 10) dX5_putNumber_31 (by decide) ?_
      refine x_irem C dX5_putNumber_33 (by decide) ?_
      refine x_iadd C dX5_putNumber_34 ?_
      refine x_i2c C dX5_putNumber_35 ?_
      obtain ⟨q4, hk4, h⟩ := Option.bind_eq_some_iff.mp h
      refine x_callV C (As := [.int ((((48 : Int32) + ((p1 / (10 : Int32)) - (p1 / (10 : Int32)) / (10 : Int32) * (10 : Int32))).toUInt32 % 65536).toInt32)]) (rest := []) (lw_g_mk tw_1095 rfl) (lw_g_mk tsel_12 rfl) (c_HB) (C1 := "HostelBeds") (T := TX5) (N := 12) (ci := 5) rfl (okX5_putSign l cy D B ((((48 : Int32) + ((p1 / (10 : Int32)) - (p1 / (10 : Int32)) / (10 : Int32) * (10 : Int32))).toUInt32 % 65536).toInt32) σ1 μ ω _ hk4) rfl rfl (by rw [hR9]; decide) (lw_g_mk tw_1096 rfl) (lw_g_mk tw_1 rfl) (by decide) rfl (lw_g_mk tw_1093 rfl) rfl (Nat.le_of_ble_eq_true rfl) dX5_putNumber_36 (by rw [hR9]; decide) ?_
      exact hJ2 q4 _ h hret
  refine x_icmp_lt C (tgt := 18) dX5_putNumber_3 (by decide) (fun hc6 => ?_) (fun hc6 => ?_)
  · rw [if_pos hc6] at h
    exact hJ5 σ _ h hret
  · rw [if_neg hc6] at h
    refine x_aload_n C dX5_putNumber_6 rfl 0 rfl ?_
    refine x_bipush C (v := 48) dX5_putNumber_7 (by decide) ?_
    refine x_iload_n C dX5_putNumber_9 rfl 1 rfl ?_
    refine x_bipush C (v := 100) dX5_putNumber_10 (by decide) ?_
    refine x_idiv C dX5_putNumber_12 (by decide) ?_
    refine x_iadd C dX5_putNumber_13 ?_
    refine x_i2c C dX5_putNumber_14 ?_
    obtain ⟨q5, hk7, h⟩ := Option.bind_eq_some_iff.mp h
    refine x_callV C (As := [.int ((((48 : Int32) + (p1 / (100 : Int32))).toUInt32 % 65536).toInt32)]) (rest := []) (lw_g_mk tw_1095 rfl) (lw_g_mk tsel_12 rfl) (c_HB) (C1 := "HostelBeds") (T := TX5) (N := 12) (ci := 5) rfl (okX5_putSign l cy D B ((((48 : Int32) + (p1 / (100 : Int32))).toUInt32 % 65536).toInt32) σ μ ω _ hk7) rfl rfl (by rw [hR9]; decide) (lw_g_mk tw_1096 rfl) (lw_g_mk tw_1 rfl) (by decide) rfl (lw_g_mk tw_1093 rfl) rfl (Nat.le_of_ble_eq_true rfl) dX5_putNumber_15 (by rw [hR9]; decide) ?_
    exact hJ5 q5 _ h hret
