def jX2_put_42 (a3 : Int32 × Mem) (σ1 : Mem) : Option ((Int32 × Mem) ⊕ (Mem)) := (some (.inl (a3.1 + (-8 : Int32), σ1)))
def stX2_put_3 (p1 : Int32) (a3 : Int32 × Mem) : Option ((Int32 × Mem) ⊕ (Mem)) := (if a3.1 < 0 then (some (.inr a3.2)) else (if (700 : Int32) ≤ (rI a3.2 7 0 0) then (jX2_put_42 a3 a3.2) else (gd (inb (rI a3.2 7 0 0) 700) (jX2_put_42 a3 (wI (wI a3.2 6 0 (rI a3.2 7 0 0).toNatClampNeg (vp_nar .byte (((p1.toUInt32 >>> (a3.1.toUInt32 &&& Int32.toUInt32 31)).toInt32).toInt8.toInt32))) 7 0 0 ((rI (wI a3.2 6 0 (rI a3.2 7 0 0).toNatClampNeg (vp_nar .byte (((p1.toUInt32 >>> (a3.1.toUInt32 &&& Int32.toUInt32 31)).toInt32).toInt8.toInt32))) 7 0 0) + (1 : Int32)))))))
def fX2_put (p1 : Int32) (σ : Mem) : Option (Mem) := ((loop (stX2_put_3 p1) 5000 ((24 : Int32), σ)).bind fun b3 => (some b3))
set_option maxHeartbeats 4000000 in
set_option maxRecDepth 100000 in
theorem okX2_put (l : Launch) (cy : Nat → ClassId) (D : va_G) (B : Nat) (ek : EK) (p1 : Int32) (σ : Mem) (Y : va_W) (res : Mem) (h : fX2_put p1 σ = some res) : CT l cy D B ek yX2_put cX2_put 3 none ({ frames := 0, cells := 0, slots := 0, locals := 0 } : Room) [.ref (B + oIn), .int p1] σ Y none res Y := by
  refine met_X (own := "HostelBeds$Input") (by decide) rfl (Nat.le_of_ble_eq_true rfl) ?_
  intro p e s m args below meth c C hrT hlk
  have hret : ∀ (pc9 : Nat) (lcs9 : List (Nat × Value)), decode cX2_put pc9 = .ok (.return_, 1) → X p l e ({ frames := 0, cells := 0, slots := 0, locals := 0 } : Room) s m args below meth c 3 cy D B 0 0 (MQ below (QR cy D B none res Y) args s 0 0 (aB B)) pc9 lcs9 [] res Y := fun _ _ hd => x_vret C hrT hlk hd
  generalize (MQ below (QR cy D B none res Y) args s 0 0 (aB B)) = Q at hret ⊢
  obtain ⟨R, hR9⟩ : ∃ R : Room, R = ({ frames := 0, cells := 0, slots := 0, locals := 0 } : Room) := ⟨_, rfl⟩
  rw [← hR9] at hret ⊢
  unfold fX2_put at h
  show X p l e R s m args below meth c 3 cy D B 0 0 Q 0 [(0, .ref (B + oIn)), (1, .int p1)] [] σ Y
  refine x_bipush C (v := 24) dX2_put_0 (by decide) ?_
  refine x_istore_n C [(2, .int (24 : Int32)), (0, .ref (B + oIn)), (1, .int p1)] dX2_put_2 rfl (by decide) rfl ?_
  obtain ⟨b3, hk7, h⟩ := Option.bind_eq_some_iff.mp h
  refine x_sub [1, 2, 0] rfl ?_
  refine loop_run (step := stX2_put_3 p1) (P := fun (a3 : Int32 × Mem) => X p l e R s m args below meth c 3 cy D B 0 0 Q 3 [(0, .ref (B + oIn)), (1, .int p1), (2, .int a3.1)] [] a3.2 Y) (K := fun (b3 : Mem) => X p l e R s m args below meth c 3 cy D B 0 0 Q 48 [] [] b3 Y) ?_ 5000 ((24 : Int32), σ) b3 hk7 ?_
  · intro a3 r h hA1 hB2
    unfold stX2_put_3 at h
    refine x_iload_n C dX2_put_3 rfl 2 rfl ?_
    refine x_if_lt C (tgt := 48) dX2_put_4 (by decide) (fun hc3 => ?_) (fun hc3 => ?_)
    · rw [if_pos hc3] at h
      cases h
      refine x_sub [] rfl ?_
      exact hB2 a3.2 rfl
    · rw [if_neg hc3] at h
      refine x_aload_n C dX2_put_7 rfl 0 rfl ?_
      refine x_get C (C1 := "HostelBeds$Input") (T := TX2) (N := 7) (ci := 4) inXg2 _ (c_In) rfl 1 (by decide) (lw_g_mk tw_42 rfl) rfl dX2_put_8 ?_
      refine x_aload_n C dX2_put_11 rfl 0 rfl ?_
      refine x_get C (C1 := "HostelBeds$Input") (T := TX2) (N := 7) (ci := 4) inXg2 _ (c_In) rfl 0 (by decide) (lw_g_mk tw_40 rfl) rfl dX2_put_12 ?_
      refine x_alen C _ 2 (c_Text) rfl (v := 700) rfl dX2_put_15 ?_
      have hJ4 : ∀ (σ1 : Mem) (r9 : (Int32 × Mem) ⊕ (Mem)), jX2_put_42 a3 σ1 = some r9 → (∀ a2, r9 = .inl a2 → (fun (a3 : Int32 × Mem) => X p l e R s m args below meth c 3 cy D B 0 0 Q 3 [(0, .ref (B + oIn)), (1, .int p1), (2, .int a3.1)] [] a3.2 Y) a2) → (∀ b2, r9 = .inr b2 → (fun (b3 : Mem) => X p l e R s m args below meth c 3 cy D B 0 0 Q 48 [] [] b3 Y) b2) → X p l e R s m args below meth c 3 cy D B 0 0 Q 42 [(0, .ref (B + oIn)), (1, .int p1), (2, .int a3.1)] [] σ1 Y := by
        intro σ1 r h hA1 hB2
        unfold jX2_put_42 at h
        refine x_iinc C (k := 2) [(2, .int (a3.1 + (-8 : Int32))), (0, .ref (B + oIn)), (1, .int p1)] dX2_put_42 rfl rfl (by decide) rfl ?_
        refine x_goto C (tgt := 3) dX2_put_45 (by decide) ?_
        cases h
        refine x_sub [1, 2, 0] rfl ?_
        exact hA1 (a3.1 + (-8 : Int32), σ1) rfl
      refine x_icmp_ge C (tgt := 42) dX2_put_16 (by decide) (fun hc5 => ?_) (fun hc5 => ?_)
      · rw [if_pos hc5] at h
        exact hJ4 a3.2 _ h hA1 hB2
      · rw [if_neg hc5] at h
        refine x_aload_n C dX2_put_19 rfl 0 rfl ?_
        refine x_get C (C1 := "HostelBeds$Input") (T := TX2) (N := 7) (ci := 4) inXg2 _ (c_In) rfl 0 (by decide) (lw_g_mk tw_40 rfl) rfl dX2_put_20 ?_
        refine x_aload_n C dX2_put_23 rfl 0 rfl ?_
        refine x_get C (C1 := "HostelBeds$Input") (T := TX2) (N := 7) (ci := 4) inXg2 _ (c_In) rfl 1 (by decide) (lw_g_mk tw_42 rfl) rfl dX2_put_24 ?_
        refine x_iload_n C dX2_put_27 rfl 1 rfl ?_
        refine x_iload_n C dX2_put_28 rfl 2 rfl ?_
        refine x_iushr C dX2_put_29 ?_
        refine x_i2b C dX2_put_30 ?_
        obtain ⟨hg6, h⟩ := gd_some h
        refine x_bast C _ (c_Text) hg6 dX2_put_31 (s_Text) ?_
        refine x_aload_n C dX2_put_32 rfl 0 rfl ?_
        refine x_dup C dX2_put_33 rfl ?_
        refine x_get C (C1 := "HostelBeds$Input") (T := TX2) (N := 7) (ci := 4) inXg2 _ (c_In) rfl 1 (by decide) (lw_g_mk tw_42 rfl) rfl dX2_put_34 ?_
        refine x_iconst C (v := 1) dX2_put_37 (by decide) ?_
        refine x_iadd C dX2_put_38 ?_
        refine x_put C (C1 := "HostelBeds$Input") (T := TX2) (N := 7) (ci := 4) inXg2 tyX2 tyX2_ok nmX2 _ (c_In) rfl 1 (by decide) (lw_g_mk tw_42 rfl) rfl rfl rfl rfl (Nat.le_of_ble_eq_true rfl) dX2_put_39 (s_In_length) ?_
        exact hJ4 (wI (wI a3.2 6 0 (rI a3.2 7 0 0).toNatClampNeg (vp_nar .byte (((p1.toUInt32 >>> (a3.1.toUInt32 &&& Int32.toUInt32 31)).toInt32).toInt8.toInt32))) 7 0 0 ((rI (wI a3.2 6 0 (rI a3.2 7 0 0).toNatClampNeg (vp_nar .byte (((p1.toUInt32 >>> (a3.1.toUInt32 &&& Int32.toUInt32 31)).toInt32).toInt8.toInt32))) 7 0 0) + (1 : Int32))) _ h hA1 hB2
  · show X p l e R s m args below meth c 3 cy D B 0 0 Q 48 [] [] b3 Y
    cases h
    exact hret _ _ dX2_put_48
def stX2_takeNumber_5 (a5 : Mem) : Option ((Mem) ⊕ (Mem)) := (if (rI a5 7 0 0) ≤ (rI a5 8 0 0) then (some (.inr a5)) else (gd (inb (rI a5 8 0 0) 700) (if (rI a5 6 0 (rI a5 8 0 0).toNatClampNeg) < (48 : Int32) then (some (.inr a5)) else (if (57 : Int32) < (rI a5 6 0 (rI a5 8 0 0).toNatClampNeg) then (some (.inr a5)) else (some (.inl (wI (wI a5 11 0 0 ((((rI a5 11 0 0) * (10 : Int32)) + (rI a5 6 0 (rI a5 8 0 0).toNatClampNeg)) - (48 : Int32))) 8 0 0 ((rI (wI a5 11 0 0 ((((rI a5 11 0 0) * (10 : Int32)) + (rI a5 6 0 (rI a5 8 0 0).toNatClampNeg)) - (48 : Int32))) 8 0 0) + (1 : Int32)))))))))
def fX2_takeNumber (σ : Mem) : Option (Mem) := ((loop (stX2_takeNumber_5) 5000 (wI σ 11 0 0 (0 : Int32))).bind fun b5 => (if (3 : Int32) < ((rI b5 8 0 0) - (rI b5 9 0 0)) then (some (wI b5 10 0 0 (4 : Int32))) else (some (wI b5 10 0 0 (2 : Int32)))))
set_option maxHeartbeats 4000000 in
set_option maxRecDepth 100000 in
theorem okX2_takeNumber (l : Launch) (cy : Nat → ClassId) (D : va_G) (B : Nat) (ek : EK) (σ : Mem) (Y : va_W) (res : Mem) (h : fX2_takeNumber σ = some res) : CT l cy D B ek yX2_takeNumber cX2_takeNumber 1 none ({ frames := 0, cells := 0, slots := 0, locals := 0 } : Room) [.ref (B + oIn)] σ Y none res Y := by
  refine met_X (own := "HostelBeds$Input") (by decide) rfl (Nat.le_of_ble_eq_true rfl) ?_
  intro p e s m args below meth c C hrT hlk
  have hret : ∀ (pc9 : Nat) (lcs9 : List (Nat × Value)), decode cX2_takeNumber pc9 = .ok (.return_, 1) → X p l e ({ frames := 0, cells := 0, slots := 0, locals := 0 } : Room) s m args below meth c 1 cy D B 0 0 (MQ below (QR cy D B none res Y) args s 0 0 (aB B)) pc9 lcs9 [] res Y := fun _ _ hd => x_vret C hrT hlk hd
  generalize (MQ below (QR cy D B none res Y) args s 0 0 (aB B)) = Q at hret ⊢
  obtain ⟨R, hR9⟩ : ∃ R : Room, R = ({ frames := 0, cells := 0, slots := 0, locals := 0 } : Room) := ⟨_, rfl⟩
  rw [← hR9] at hret ⊢
  unfold fX2_takeNumber at h
  show X p l e R s m args below meth c 1 cy D B 0 0 Q 0 [(0, .ref (B + oIn))] [] σ Y
  refine x_aload_n C dX2_takeNumber_0 rfl 0 rfl ?_
  refine x_iconst C (v := 0) dX2_takeNumber_1 (by decide) ?_
  refine x_put C (C1 := "HostelBeds$Input") (T := TX2) (N := 7) (ci := 4) inXg2 tyX2 tyX2_ok nmX2 _ (c_In) rfl 6 (by decide) (lw_g_mk tw_47 rfl) rfl rfl rfl rfl (Nat.le_of_ble_eq_true rfl) dX2_takeNumber_2 (s_In_number) ?_
  obtain ⟨b5, hk7, h⟩ := Option.bind_eq_some_iff.mp h
  refine loop_run (step := stX2_takeNumber_5) (P := fun (a5 : Mem) => X p l e R s m args below meth c 1 cy D B 0 0 Q 5 [(0, .ref (B + oIn))] [] a5 Y) (K := fun (b5 : Mem) => X p l e R s m args below meth c 1 cy D B 0 0 Q 81 [(0, .ref (B + oIn))] [] b5 Y) ?_ 5000 (wI σ 11 0 0 (0 : Int32)) b5 hk7 ?_
  · intro a5 r h hA1 hB2
    unfold stX2_takeNumber_5 at h
    refine x_aload_n C dX2_takeNumber_5 rfl 0 rfl ?_
    refine x_get C (C1 := "HostelBeds$Input") (T := TX2) (N := 7) (ci := 4) inXg2 _ (c_In) rfl 2 (by decide) (lw_g_mk tw_43 rfl) rfl dX2_takeNumber_6 ?_
    refine x_aload_n C dX2_takeNumber_9 rfl 0 rfl ?_
    refine x_get C (C1 := "HostelBeds$Input") (T := TX2) (N := 7) (ci := 4) inXg2 _ (c_In) rfl 1 (by decide) (lw_g_mk tw_42 rfl) rfl dX2_takeNumber_10 ?_
    refine x_icmp_ge C (tgt := 81) dX2_takeNumber_13 (by decide) (fun hc3 => ?_) (fun hc3 => ?_)
    · rw [if_pos hc3] at h
      cases h
      exact hB2 a5 rfl
    · rw [if_neg hc3] at h
      refine x_aload_n C dX2_takeNumber_16 rfl 0 rfl ?_
      refine x_get C (C1 := "HostelBeds$Input") (T := TX2) (N := 7) (ci := 4) inXg2 _ (c_In) rfl 0 (by decide) (lw_g_mk tw_40 rfl) rfl dX2_takeNumber_17 ?_
      refine x_aload_n C dX2_takeNumber_20 rfl 0 rfl ?_
      refine x_get C (C1 := "HostelBeds$Input") (T := TX2) (N := 7) (ci := 4) inXg2 _ (c_In) rfl 2 (by decide) (lw_g_mk tw_43 rfl) rfl dX2_takeNumber_21 ?_
      obtain ⟨hg4, h⟩ := gd_some h
      refine x_bald C _ (c_Text) hg4 dX2_takeNumber_24 ?_
      refine x_bipush C (v := 48) dX2_takeNumber_25 (by decide) ?_
      refine x_icmp_lt C (tgt := 81) dX2_takeNumber_27 (by decide) (fun hc5 => ?_) (fun hc5 => ?_)
      · rw [if_pos hc5] at h
        cases h
        exact hB2 a5 rfl
      · rw [if_neg hc5] at h
        refine x_aload_n C dX2_takeNumber_30 rfl 0 rfl ?_
        refine x_get C (C1 := "HostelBeds$Input") (T := TX2) (N := 7) (ci := 4) inXg2 _ (c_In) rfl 0 (by decide) (lw_g_mk tw_40 rfl) rfl dX2_takeNumber_31 ?_
        refine x_aload_n C dX2_takeNumber_34 rfl 0 rfl ?_
        refine x_get C (C1 := "HostelBeds$Input") (T := TX2) (N := 7) (ci := 4) inXg2 _ (c_In) rfl 2 (by decide) (lw_g_mk tw_43 rfl) rfl dX2_takeNumber_35 ?_
        refine x_bald C _ (c_Text) hg4 dX2_takeNumber_38 ?_
        refine x_bipush C (v := 57) dX2_takeNumber_39 (by decide) ?_
        refine x_icmp_gt C (tgt := 81) dX2_takeNumber_41 (by decide) (fun hc6 => ?_) (fun hc6 => ?_)
        · rw [if_pos hc6] at h
          cases h
          exact hB2 a5 rfl
        · rw [if_neg hc6] at h
          refine x_aload_n C dX2_takeNumber_44 rfl 0 rfl ?_
          refine x_aload_n C dX2_takeNumber_45 rfl 0 rfl ?_
          refine x_get C (C1 := "HostelBeds$Input") (T := TX2) (N := 7) (ci := 4) inXg2 _ (c_In) rfl 6 (by decide) (lw_g_mk tw_47 rfl) rfl dX2_takeNumber_46 ?_
          refine x_bipush C (v := 10) dX2_takeNumber_49 (by decide) ?_
          refine x_imul C dX2_takeNumber_51 ?_
          refine x_aload_n C dX2_takeNumber_52 rfl 0 rfl ?_
          refine x_get C (C1 := "HostelBeds$Input") (T := TX2) (N := 7) (ci := 4) inXg2 _ (c_In) rfl 0 (by decide) (lw_g_mk tw_40 rfl) rfl dX2_takeNumber_53 ?_
          refine x_aload_n C dX2_takeNumber_56 rfl 0 rfl ?_
          refine x_get C (C1 := "HostelBeds$Input") (T := TX2) (N := 7) (ci := 4) inXg2 _ (c_In) rfl 2 (by decide) (lw_g_mk tw_43 rfl) rfl dX2_takeNumber_57 ?_
          refine x_bald C _ (c_Text) hg4 dX2_takeNumber_60 ?_
          refine x_iadd C dX2_takeNumber_61 ?_
          refine x_bipush C (v := 48) dX2_takeNumber_62 (by decide) ?_
          refine x_isub C dX2_takeNumber_64 ?_
          refine x_put C (C1 := "HostelBeds$Input") (T := TX2) (N := 7) (ci := 4) inXg2 tyX2 tyX2_ok nmX2 _ (c_In) rfl 6 (by decide) (lw_g_mk tw_47 rfl) rfl rfl rfl rfl (Nat.le_of_ble_eq_true rfl) dX2_takeNumber_65 (s_In_number) ?_
          refine x_aload_n C dX2_takeNumber_68 rfl 0 rfl ?_
          refine x_dup C dX2_takeNumber_69 rfl ?_
          refine x_get C (C1 := "HostelBeds$Input") (T := TX2) (N := 7) (ci := 4) inXg2 _ (c_In) rfl 2 (by decide) (lw_g_mk tw_43 rfl) rfl dX2_takeNumber_70 ?_
          refine x_iconst C (v := 1) dX2_takeNumber_73 (by decide) ?_
          refine x_iadd C dX2_takeNumber_74 ?_
          refine x_put C (C1 := "HostelBeds$Input") (T := TX2) (N := 7) (ci := 4) inXg2 tyX2 tyX2_ok nmX2 _ (c_In) rfl 2 (by decide) (lw_g_mk tw_43 rfl) rfl rfl rfl rfl (Nat.le_of_ble_eq_true rfl) dX2_takeNumber_75 (s_In_at) ?_
          refine x_goto C (tgt := 5) dX2_takeNumber_78 (by decide) ?_
          cases h
          exact hA1 (wI (wI a5 11 0 0 ((((rI a5 11 0 0) * (10 : Int32)) + (rI a5 6 0 (rI a5 8 0 0).toNatClampNeg)) - (48 : Int32))) 8 0 0 ((rI (wI a5 11 0 0 ((((rI a5 11 0 0) * (10 : Int32)) + (rI a5 6 0 (rI a5 8 0 0).toNatClampNeg)) - (48 : Int32))) 8 0 0) + (1 : Int32))) rfl
  · show X p l e R s m args below meth c 1 cy D B 0 0 Q 81 [(0, .ref (B + oIn))] [] b5 Y
    refine x_aload_n C dX2_takeNumber_81 rfl 0 rfl ?_
    refine x_aload_n C dX2_takeNumber_82 rfl 0 rfl ?_
    refine x_get C (C1 := "HostelBeds$Input") (T := TX2) (N := 7) (ci := 4) inXg2 _ (c_In) rfl 2 (by decide) (lw_g_mk tw_43 rfl) rfl dX2_takeNumber_83 ?_
    refine x_aload_n C dX2_takeNumber_86 rfl 0 rfl ?_
    refine x_get C (C1 := "HostelBeds$Input") (T := TX2) (N := 7) (ci := 4) inXg2 _ (c_In) rfl 3 (by decide) (lw_g_mk tw_44 rfl) rfl dX2_takeNumber_87 ?_
    refine x_isub C dX2_takeNumber_90 ?_
    refine x_iconst C (v := 3) dX2_takeNumber_91 (by decide) ?_
    refine x_icmp_gt C (tgt := 99) dX2_takeNumber_92 (by decide) (fun hc8 => ?_) (fun hc8 => ?_)
    · rw [if_pos hc8] at h
      refine x_iconst C (v := 4) dX2_takeNumber_99 (by decide) ?_
      refine x_put C (C1 := "HostelBeds$Input") (T := TX2) (N := 7) (ci := 4) inXg2 tyX2 tyX2_ok nmX2 _ (c_In) rfl 4 (by decide) (lw_g_mk tw_45 rfl) rfl rfl rfl rfl (Nat.le_of_ble_eq_true rfl) dX2_takeNumber_100 (s_In_token) ?_
      cases h
      exact hret _ _ dX2_takeNumber_103
    · rw [if_neg hc8] at h
      refine x_iconst C (v := 2) dX2_takeNumber_95 (by decide) ?_
      refine x_goto C (tgt := 100) dX2_takeNumber_96 (by decide) ?_
      refine x_put C (C1 := "HostelBeds$Input") (T := TX2) (N := 7) (ci := 4) inXg2 tyX2 tyX2_ok nmX2 _ (c_In) rfl 4 (by decide) (lw_g_mk tw_45 rfl) rfl rfl rfl rfl (Nat.le_of_ble_eq_true rfl) dX2_takeNumber_100 (s_In_token) ?_
      cases h
      exact hret _ _ dX2_takeNumber_103
def stX2_takeWord_5 (a5 : Mem) : Option ((Mem) ⊕ (Mem)) := (if (rI a5 7 0 0) ≤ (rI a5 8 0 0) then (some (.inr a5)) else (gd (inb (rI a5 8 0 0) 700) (if (rI a5 6 0 (rI a5 8 0 0).toNatClampNeg) < (97 : Int32) then (some (.inr a5)) else (if (122 : Int32) < (rI a5 6 0 (rI a5 8 0 0).toNatClampNeg) then (some (.inr a5)) else (some (.inl (wI (wJ a5 0 0 0 (((rJ a5 0 0 0) <<< ((8 : Int32).toInt64 &&& 63)) ||| ((rI a5 6 0 (rI a5 8 0 0).toNatClampNeg).toInt64))) 8 0 0 ((rI (wJ a5 0 0 0 (((rJ a5 0 0 0) <<< ((8 : Int32).toInt64 &&& 63)) ||| ((rI a5 6 0 (rI a5 8 0 0).toNatClampNeg).toInt64))) 8 0 0) + (1 : Int32)))))))))
def fX2_takeWord (σ : Mem) : Option (Mem) := ((loop (stX2_takeWord_5) 5000 (wJ σ 0 0 0 (0 : Int64))).bind fun b5 => (if (8 : Int32) < ((rI b5 8 0 0) - (rI b5 9 0 0)) then (some (wI b5 10 0 0 (4 : Int32))) else (some (wI b5 10 0 0 (1 : Int32)))))
set_option maxHeartbeats 4000000 in
set_option maxRecDepth 100000 in
theorem okX2_takeWord (l : Launch) (cy : Nat → ClassId) (D : va_G) (B : Nat) (ek : EK) (σ : Mem) (Y : va_W) (res : Mem) (h : fX2_takeWord σ = some res) : CT l cy D B ek yX2_takeWord cX2_takeWord 1 none ({ frames := 0, cells := 0, slots := 0, locals := 0 } : Room) [.ref (B + oIn)] σ Y none res Y := by
  refine met_X (own := "HostelBeds$Input") (by decide) rfl (Nat.le_of_ble_eq_true rfl) ?_
  intro p e s m args below meth c C hrT hlk
  have hret : ∀ (pc9 : Nat) (lcs9 : List (Nat × Value)), decode cX2_takeWord pc9 = .ok (.return_, 1) → X p l e ({ frames := 0, cells := 0, slots := 0, locals := 0 } : Room) s m args below meth c 1 cy D B 0 0 (MQ below (QR cy D B none res Y) args s 0 0 (aB B)) pc9 lcs9 [] res Y := fun _ _ hd => x_vret C hrT hlk hd
  generalize (MQ below (QR cy D B none res Y) args s 0 0 (aB B)) = Q at hret ⊢
  obtain ⟨R, hR9⟩ : ∃ R : Room, R = ({ frames := 0, cells := 0, slots := 0, locals := 0 } : Room) := ⟨_, rfl⟩
  rw [← hR9] at hret ⊢
  unfold fX2_takeWord at h
  show X p l e R s m args below meth c 1 cy D B 0 0 Q 0 [(0, .ref (B + oIn))] [] σ Y
  refine x_aload_n C dX2_takeWord_0 rfl 0 rfl ?_
  refine x_lconst C (v := 0) dX2_takeWord_1 (by decide) ?_
  refine x_put C (C1 := "HostelBeds$Input") (T := TX2) (N := 7) (ci := 4) inXg2 tyX2 tyX2_ok nmX2 _ (c_In) rfl 5 (by decide) (lw_g_mk tw_46 rfl) rfl rfl rfl rfl (Nat.le_of_ble_eq_true rfl) dX2_takeWord_2 (s_In_word) ?_
  obtain ⟨b5, hk7, h⟩ := Option.bind_eq_some_iff.mp h
  refine loop_run (step := stX2_takeWord_5) (P := fun (a5 : Mem) => X p l e R s m args below meth c 1 cy D B 0 0 Q 5 [(0, .ref (B + oIn))] [] a5 Y) (K := fun (b5 : Mem) => X p l e R s m args below meth c 1 cy D B 0 0 Q 79 [(0, .ref (B + oIn))] [] b5 Y) ?_ 5000 (wJ σ 0 0 0 (0 : Int64)) b5 hk7 ?_
  · intro a5 r h hA1 hB2
    unfold stX2_takeWord_5 at h
    refine x_aload_n C dX2_takeWord_5 rfl 0 rfl ?_
    refine x_get C (C1 := "HostelBeds$Input") (T := TX2) (N := 7) (ci := 4) inXg2 _ (c_In) rfl 2 (by decide) (lw_g_mk tw_43 rfl) rfl dX2_takeWord_6 ?_
    refine x_aload_n C dX2_takeWord_9 rfl 0 rfl ?_
    refine x_get C (C1 := "HostelBeds$Input") (T := TX2) (N := 7) (ci := 4) inXg2 _ (c_In) rfl 1 (by decide) (lw_g_mk tw_42 rfl) rfl dX2_takeWord_10 ?_
    refine x_icmp_ge C (tgt := 79) dX2_takeWord_13 (by decide) (fun hc3 => ?_) (fun hc3 => ?_)
    · rw [if_pos hc3] at h
      cases h
      exact hB2 a5 rfl
    · rw [if_neg hc3] at h
      refine x_aload_n C dX2_takeWord_16 rfl 0 rfl ?_
      refine x_get C (C1 := "HostelBeds$Input") (T := TX2) (N := 7) (ci := 4) inXg2 _ (c_In) rfl 0 (by decide) (lw_g_mk tw_40 rfl) rfl dX2_takeWord_17 ?_
      refine x_aload_n C dX2_takeWord_20 rfl 0 rfl ?_
      refine x_get C (C1 := "HostelBeds$Input") (T := TX2) (N := 7) (ci := 4) inXg2 _ (c_In) rfl 2 (by decide) (lw_g_mk tw_43 rfl) rfl dX2_takeWord_21 ?_
      obtain ⟨hg4, h⟩ := gd_some h
      refine x_bald C _ (c_Text) hg4 dX2_takeWord_24 ?_
      refine x_bipush C (v := 97) dX2_takeWord_25 (by decide) ?_
      refine x_icmp_lt C (tgt := 79) dX2_takeWord_27 (by decide) (fun hc5 => ?_) (fun hc5 => ?_)
      · rw [if_pos hc5] at h
        cases h
        exact hB2 a5 rfl
      · rw [if_neg hc5] at h
        refine x_aload_n C dX2_takeWord_30 rfl 0 rfl ?_
        refine x_get C (C1 := "HostelBeds$Input") (T := TX2) (N := 7) (ci := 4) inXg2 _ (c_In) rfl 0 (by decide) (lw_g_mk tw_40 rfl) rfl dX2_takeWord_31 ?_
        refine x_aload_n C dX2_takeWord_34 rfl 0 rfl ?_
        refine x_get C (C1 := "HostelBeds$Input") (T := TX2) (N := 7) (ci := 4) inXg2 _ (c_In) rfl 2 (by decide) (lw_g_mk tw_43 rfl) rfl dX2_takeWord_35 ?_
        refine x_bald C _ (c_Text) hg4 dX2_takeWord_38 ?_
        refine x_bipush C (v := 122) dX2_takeWord_39 (by decide) ?_
        refine x_icmp_gt C (tgt := 79) dX2_takeWord_41 (by decide) (fun hc6 => ?_) (fun hc6 => ?_)
        · rw [if_pos hc6] at h
          cases h
          exact hB2 a5 rfl
        · rw [if_neg hc6] at h
          refine x_aload_n C dX2_takeWord_44 rfl 0 rfl ?_
          refine x_aload_n C dX2_takeWord_45 rfl 0 rfl ?_
          refine x_get C (C1 := "HostelBeds$Input") (T := TX2) (N := 7) (ci := 4) inXg2 _ (c_In) rfl 5 (by decide) (lw_g_mk tw_46 rfl) rfl dX2_takeWord_46 ?_
          refine x_bipush C (v := 8) dX2_takeWord_49 (by decide) ?_
          refine x_lshl C dX2_takeWord_51 ?_
          refine x_aload_n C dX2_takeWord_52 rfl 0 rfl ?_
          refine x_get C (C1 := "HostelBeds$Input") (T := TX2) (N := 7) (ci := 4) inXg2 _ (c_In) rfl 0 (by decide) (lw_g_mk tw_40 rfl) rfl dX2_takeWord_53 ?_
          refine x_aload_n C dX2_takeWord_56 rfl 0 rfl ?_
          refine x_get C (C1 := "HostelBeds$Input") (T := TX2) (N := 7) (ci := 4) inXg2 _ (c_In) rfl 2 (by decide) (lw_g_mk tw_43 rfl) rfl dX2_takeWord_57 ?_
          refine x_bald C _ (c_Text) hg4 dX2_takeWord_60 ?_
          refine x_i2l C dX2_takeWord_61 ?_
          refine x_lor C dX2_takeWord_62 ?_
          refine x_put C (C1 := "HostelBeds$Input") (T := TX2) (N := 7) (ci := 4) inXg2 tyX2 tyX2_ok nmX2 _ (c_In) rfl 5 (by decide) (lw_g_mk tw_46 rfl) rfl rfl rfl rfl (Nat.le_of_ble_eq_true rfl) dX2_takeWord_63 (s_In_word) ?_
          refine x_aload_n C dX2_takeWord_66 rfl 0 rfl ?_
          refine x_dup C dX2_takeWord_67 rfl ?_
          refine x_get C (C1 := "HostelBeds$Input") (T := TX2) (N := 7) (ci := 4) inXg2 _ (c_In) rfl 2 (by decide) (lw_g_mk tw_43 rfl) rfl dX2_takeWord_68 ?_
          refine x_iconst C (v := 1) dX2_takeWord_71 (by decide) ?_
          refine x_iadd C dX2_takeWord_72 ?_
          refine x_put C (C1 := "HostelBeds$Input") (T := TX2) (N := 7) (ci := 4) inXg2 tyX2 tyX2_ok nmX2 _ (c_In) rfl 2 (by decide) (lw_g_mk tw_43 rfl) rfl rfl rfl rfl (Nat.le_of_ble_eq_true rfl) dX2_takeWord_73 (s_In_at) ?_
          refine x_goto C (tgt := 5) dX2_takeWord_76 (by decide) ?_
          cases h
          exact hA1 (wI (wJ a5 0 0 0 (((rJ a5 0 0 0) <<< ((8 : Int32).toInt64 &&& 63)) ||| ((rI a5 6 0 (rI a5 8 0 0).toNatClampNeg).toInt64))) 8 0 0 ((rI (wJ a5 0 0 0 (((rJ a5 0 0 0) <<< ((8 : Int32).toInt64 &&& 63)) ||| ((rI a5 6 0 (rI a5 8 0 0).toNatClampNeg).toInt64))) 8 0 0) + (1 : Int32))) rfl
  · show X p l e R s m args below meth c 1 cy D B 0 0 Q 79 [(0, .ref (B + oIn))] [] b5 Y
    refine x_aload_n C dX2_takeWord_79 rfl 0 rfl ?_
    refine x_aload_n C dX2_takeWord_80 rfl 0 rfl ?_
    refine x_get C (C1 := "HostelBeds$Input") (T := TX2) (N := 7) (ci := 4) inXg2 _ (c_In) rfl 2 (by decide) (lw_g_mk tw_43 rfl) rfl dX2_takeWord_81 ?_
    refine x_aload_n C dX2_takeWord_84 rfl 0 rfl ?_
    refine x_get C (C1 := "HostelBeds$Input") (T := TX2) (N := 7) (ci := 4) inXg2 _ (c_In) rfl 3 (by decide) (lw_g_mk tw_44 rfl) rfl dX2_takeWord_85 ?_
    refine x_isub C dX2_takeWord_88 ?_
    refine x_bipush C (v := 8) dX2_takeWord_89 (by decide) ?_
    refine x_icmp_gt C (tgt := 98) dX2_takeWord_91 (by decide) (fun hc8 => ?_) (fun hc8 => ?_)
    · rw [if_pos hc8] at h
      refine x_iconst C (v := 4) dX2_takeWord_98 (by decide) ?_
      refine x_put C (C1 := "HostelBeds$Input") (T := TX2) (N := 7) (ci := 4) inXg2 tyX2 tyX2_ok nmX2 _ (c_In) rfl 4 (by decide) (lw_g_mk tw_45 rfl) rfl rfl rfl rfl (Nat.le_of_ble_eq_true rfl) dX2_takeWord_99 (s_In_token) ?_
      cases h
      exact hret _ _ dX2_takeWord_102
    · rw [if_neg hc8] at h
      refine x_iconst C (v := 1) dX2_takeWord_94 (by decide) ?_
      refine x_goto C (tgt := 99) dX2_takeWord_95 (by decide) ?_
      refine x_put C (C1 := "HostelBeds$Input") (T := TX2) (N := 7) (ci := 4) inXg2 tyX2 tyX2_ok nmX2 _ (c_In) rfl 4 (by decide) (lw_g_mk tw_45 rfl) rfl rfl rfl rfl (Nat.le_of_ble_eq_true rfl) dX2_takeWord_99 (s_In_token) ?_
      cases h
      exact hret _ _ dX2_takeWord_102
def jX2_advance_39 (a0 : Mem) : Option ((Mem) ⊕ (Mem)) := (some (.inl (wI a0 8 0 0 ((rI a0 8 0 0) + (1 : Int32)))))
def stX2_advance_0 (a0 : Mem) : Option ((Mem) ⊕ (Mem)) := (if (rI a0 7 0 0) ≤ (rI a0 8 0 0) then (some (.inr a0)) else (gd (inb (rI a0 8 0 0) 700) (if (rI a0 6 0 (rI a0 8 0 0).toNatClampNeg) = (32 : Int32) then (jX2_advance_39 a0) else (if ¬ (rI a0 6 0 (rI a0 8 0 0).toNatClampNeg) = (10 : Int32) then (some (.inr a0)) else (jX2_advance_39 a0)))))
def jX2_advance_169 (b0 : Mem) (t1 : Int32) : Option (Mem) := (some (wI (wI (wI b0 9 0 0 (rI b0 8 0 0)) 10 0 0 t1) 8 0 0 ((rI (wI (wI b0 9 0 0 (rI b0 8 0 0)) 10 0 0 t1) 8 0 0) + (1 : Int32))))
def jX2_advance_149 (b0 : Mem) : Option (Mem) := (if ¬ (rI (wI b0 9 0 0 (rI b0 8 0 0)) 6 0 (rI (wI b0 9 0 0 (rI b0 8 0 0)) 8 0 0).toNatClampNeg) = (59 : Int32) then (jX2_advance_169 b0 (4 : Int32)) else (jX2_advance_169 b0 (3 : Int32)))
def jX2_advance_114 (b0 : Mem) : Option (Mem) := (if (rI (wI b0 9 0 0 (rI b0 8 0 0)) 6 0 (rI (wI b0 9 0 0 (rI b0 8 0 0)) 8 0 0).toNatClampNeg) < (48 : Int32) then (jX2_advance_149 b0) else (if (57 : Int32) < (rI (wI b0 9 0 0 (rI b0 8 0 0)) 6 0 (rI (wI b0 9 0 0 (rI b0 8 0 0)) 8 0 0).toNatClampNeg) then (jX2_advance_149 b0) else ((fX2_takeNumber (wI b0 9 0 0 (rI b0 8 0 0))).bind fun q2 => (some q2))))
def fX2_advance (σ : Mem) : Option (Mem) := ((loop (stX2_advance_0) 5000 (σ)).bind fun b0 => (if (rI (wI b0 9 0 0 (rI b0 8 0 0)) 8 0 0) < (rI (wI b0 9 0 0 (rI b0 8 0 0)) 7 0 0) then (gd (inb (rI (wI b0 9 0 0 (rI b0 8 0 0)) 8 0 0) 700) (if (rI (wI b0 9 0 0 (rI b0 8 0 0)) 6 0 (rI (wI b0 9 0 0 (rI b0 8 0 0)) 8 0 0).toNatClampNeg) < (97 : Int32) then (jX2_advance_114 b0) else (if (122 : Int32) < (rI (wI b0 9 0 0 (rI b0 8 0 0)) 6 0 (rI (wI b0 9 0 0 (rI b0 8 0 0)) 8 0 0).toNatClampNeg) then (jX2_advance_114 b0) else ((fX2_takeWord (wI b0 9 0 0 (rI b0 8 0 0))).bind fun q3 => (some q3))))) else (some (wI (wI b0 9 0 0 (rI b0 8 0 0)) 10 0 0 (0 : Int32)))))
set_option maxHeartbeats 4000000 in
set_option maxRecDepth 100000 in
theorem okX2_advance (l : Launch) (cy : Nat → ClassId) (D : va_G) (B : Nat) (ek : EK) (σ : Mem) (Y : va_W) (res : Mem) (h : fX2_advance σ = some res) : CT l cy D B ek yX2_advance cX2_advance 1 none ({ frames := 1, cells := 0, slots := 0, locals := 20 } : Room) [.ref (B + oIn)] σ Y none res Y := by
  refine met_X (own := "HostelBeds$Input") (by decide) rfl (Nat.le_of_ble_eq_true rfl) ?_
  intro p e s m args below meth c C hrT hlk
  have hret : ∀ (pc9 : Nat) (lcs9 : List (Nat × Value)), decode cX2_advance pc9 = .ok (.return_, 1) → X p l e ({ frames := 1, cells := 0, slots := 0, locals := 20 } : Room) s m args below meth c 1 cy D B 0 0 (MQ below (QR cy D B none res Y) args s 0 0 (aB B)) pc9 lcs9 [] res Y := fun _ _ hd => x_vret C hrT hlk hd
  generalize (MQ below (QR cy D B none res Y) args s 0 0 (aB B)) = Q at hret ⊢
  obtain ⟨R, hR9⟩ : ∃ R : Room, R = ({ frames := 1, cells := 0, slots := 0, locals := 20 } : Room) := ⟨_, rfl⟩
  rw [← hR9] at hret ⊢
  unfold fX2_advance at h
  show X p l e R s m args below meth c 1 cy D B 0 0 Q 0 [(0, .ref (B + oIn))] [] σ Y
  obtain ⟨b0, hk8, h⟩ := Option.bind_eq_some_iff.mp h
  refine loop_run (step := stX2_advance_0) (P := fun (a0 : Mem) => X p l e R s m args below meth c 1 cy D B 0 0 Q 0 [(0, .ref (B + oIn))] [] a0 Y) (K := fun (b0 : Mem) => X p l e R s m args below meth c 1 cy D B 0 0 Q 52 [(0, .ref (B + oIn))] [] b0 Y) ?_ 5000 (σ) b0 hk8 ?_
  · intro a0 r h hA1 hB2
    unfold stX2_advance_0 at h
    refine x_aload_n C dX2_advance_0 rfl 0 rfl ?_
    refine x_get C (C1 := "HostelBeds$Input") (T := TX2) (N := 7) (ci := 4) inXg2 _ (c_In) rfl 2 (by decide) (lw_g_mk tw_43 rfl) rfl dX2_advance_1 ?_
    refine x_aload_n C dX2_advance_4 rfl 0 rfl ?_
    refine x_get C (C1 := "HostelBeds$Input") (T := TX2) (N := 7) (ci := 4) inXg2 _ (c_In) rfl 1 (by decide) (lw_g_mk tw_42 rfl) rfl dX2_advance_5 ?_
    refine x_icmp_ge C (tgt := 52) dX2_advance_8 (by decide) (fun hc3 => ?_) (fun hc3 => ?_)
    · rw [if_pos hc3] at h
      cases h
      exact hB2 a0 rfl
    · rw [if_neg hc3] at h
      refine x_aload_n C dX2_advance_11 rfl 0 rfl ?_
      refine x_get C (C1 := "HostelBeds$Input") (T := TX2) (N := 7) (ci := 4) inXg2 _ (c_In) rfl 0 (by decide) (lw_g_mk tw_40 rfl) rfl dX2_advance_12 ?_
      refine x_aload_n C dX2_advance_15 rfl 0 rfl ?_
      refine x_get C (C1 := "HostelBeds$Input") (T := TX2) (N := 7) (ci := 4) inXg2 _ (c_In) rfl 2 (by decide) (lw_g_mk tw_43 rfl) rfl dX2_advance_16 ?_
      obtain ⟨hg4, h⟩ := gd_some h
      refine x_bald C _ (c_Text) hg4 dX2_advance_19 ?_
      refine x_bipush C (v := 32) dX2_advance_20 (by decide) ?_
      have hJ5 : ∀ (r9 : (Mem) ⊕ (Mem)), jX2_advance_39 a0 = some r9 → (∀ a2, r9 = .inl a2 → (fun (a0 : Mem) => X p l e R s m args below meth c 1 cy D B 0 0 Q 0 [(0, .ref (B + oIn))] [] a0 Y) a2) → (∀ b2, r9 = .inr b2 → (fun (b0 : Mem) => X p l e R s m args below meth c 1 cy D B 0 0 Q 52 [(0, .ref (B + oIn))] [] b0 Y) b2) → X p l e R s m args below meth c 1 cy D B 0 0 Q 39 [(0, .ref (B + oIn))] [] a0 Y := by
        intro r h hA1 hB2
        unfold jX2_advance_39 at h
        refine x_aload_n C dX2_advance_39 rfl 0 rfl ?_
        refine x_dup C dX2_advance_40 rfl ?_
        refine x_get C (C1 := "HostelBeds$Input") (T := TX2) (N := 7) (ci := 4) inXg2 _ (c_In) rfl 2 (by decide) (lw_g_mk tw_43 rfl) rfl dX2_advance_41 ?_
        refine x_iconst C (v := 1) dX2_advance_44 (by decide) ?_
        refine x_iadd C dX2_advance_45 ?_
        refine x_put C (C1 := "HostelBeds$Input") (T := TX2) (N := 7) (ci := 4) inXg2 tyX2 tyX2_ok nmX2 _ (c_In) rfl 2 (by decide) (lw_g_mk tw_43 rfl) rfl rfl rfl rfl (Nat.le_of_ble_eq_true rfl) dX2_advance_46 (s_In_at) ?_
        refine x_goto C (tgt := 0) dX2_advance_49 (by decide) ?_
        cases h
        exact hA1 (wI a0 8 0 0 ((rI a0 8 0 0) + (1 : Int32))) rfl
      refine x_icmp_eq C (tgt := 39) dX2_advance_22 (by decide) (fun hc6 => ?_) (fun hc6 => ?_)
      · rw [if_pos hc6] at h
        exact hJ5 _ h hA1 hB2
      · rw [if_neg hc6] at h
        refine x_aload_n C dX2_advance_25 rfl 0 rfl ?_
        refine x_get C (C1 := "HostelBeds$Input") (T := TX2) (N := 7) (ci := 4) inXg2 _ (c_In) rfl 0 (by decide) (lw_g_mk tw_40 rfl) rfl dX2_advance_26 ?_
        refine x_aload_n C dX2_advance_29 rfl 0 rfl ?_
        refine x_get C (C1 := "HostelBeds$Input") (T := TX2) (N := 7) (ci := 4) inXg2 _ (c_In) rfl 2 (by decide) (lw_g_mk tw_43 rfl) rfl dX2_advance_30 ?_
        refine x_bald C _ (c_Text) hg4 dX2_advance_33 ?_
        refine x_bipush C (v := 10) dX2_advance_34 (by decide) ?_
        refine x_icmp_ne C (tgt := 52) dX2_advance_36 (by decide) (fun hc7 => ?_) (fun hc7 => ?_)
        · rw [if_pos hc7] at h
          cases h
          exact hB2 a0 rfl
        · rw [if_neg hc7] at h
          exact hJ5 _ h hA1 hB2
  · show X p l e R s m args below meth c 1 cy D B 0 0 Q 52 [(0, .ref (B + oIn))] [] b0 Y
    refine x_aload_n C dX2_advance_52 rfl 0 rfl ?_
    refine x_aload_n C dX2_advance_53 rfl 0 rfl ?_
    refine x_get C (C1 := "HostelBeds$Input") (T := TX2) (N := 7) (ci := 4) inXg2 _ (c_In) rfl 2 (by decide) (lw_g_mk tw_43 rfl) rfl dX2_advance_54 ?_
    refine x_put C (C1 := "HostelBeds$Input") (T := TX2) (N := 7) (ci := 4) inXg2 tyX2 tyX2_ok nmX2 _ (c_In) rfl 3 (by decide) (lw_g_mk tw_44 rfl) rfl rfl rfl rfl (Nat.le_of_ble_eq_true rfl) dX2_advance_57 (s_In_start) ?_
    refine x_aload_n C dX2_advance_60 rfl 0 rfl ?_
    refine x_get C (C1 := "HostelBeds$Input") (T := TX2) (N := 7) (ci := 4) inXg2 _ (c_In) rfl 2 (by decide) (lw_g_mk tw_43 rfl) rfl dX2_advance_61 ?_
    refine x_aload_n C dX2_advance_64 rfl 0 rfl ?_
    refine x_get C (C1 := "HostelBeds$Input") (T := TX2) (N := 7) (ci := 4) inXg2 _ (c_In) rfl 1 (by decide) (lw_g_mk tw_42 rfl) rfl dX2_advance_65 ?_
    refine x_icmp_lt C (tgt := 79) dX2_advance_68 (by decide) (fun hc9 => ?_) (fun hc9 => ?_)
    · rw [if_pos hc9] at h
      refine x_aload_n C dX2_advance_79 rfl 0 rfl ?_
      refine x_get C (C1 := "HostelBeds$Input") (T := TX2) (N := 7) (ci := 4) inXg2 _ (c_In) rfl 0 (by decide) (lw_g_mk tw_40 rfl) rfl dX2_advance_80 ?_
      refine x_aload_n C dX2_advance_83 rfl 0 rfl ?_
      refine x_get C (C1 := "HostelBeds$Input") (T := TX2) (N := 7) (ci := 4) inXg2 _ (c_In) rfl 2 (by decide) (lw_g_mk tw_43 rfl) rfl dX2_advance_84 ?_
      obtain ⟨hg10, h⟩ := gd_some h
      refine x_bald C _ (c_Text) hg10 dX2_advance_87 ?_
      refine x_bipush C (v := 97) dX2_advance_88 (by decide) ?_
      have hJ17 : ∀ (r9 : Mem), jX2_advance_114 b0 = some r9 → (∀ (pc9 : Nat) (lcs9 : List (Nat × Value)), decode cX2_advance pc9 = .ok (.return_, 1) → X p l e R s m args below meth c 1 cy D B 0 0 Q pc9 lcs9 [] r9 Y) → X p l e R s m args below meth c 1 cy D B 0 0 Q 114 [(0, .ref (B + oIn))] [] (wI b0 9 0 0 (rI b0 8 0 0)) Y := by
        intro res9 h hret
        unfold jX2_advance_114 at h
        refine x_aload_n C dX2_advance_114 rfl 0 rfl ?_
        refine x_get C (C1 := "HostelBeds$Input") (T := TX2) (N := 7) (ci := 4) inXg2 _ (c_In) rfl 0 (by decide) (lw_g_mk tw_40 rfl) rfl dX2_advance_115 ?_
        refine x_aload_n C dX2_advance_118 rfl 0 rfl ?_
        refine x_get C (C1 := "HostelBeds$Input") (T := TX2) (N := 7) (ci := 4) inXg2 _ (c_In) rfl 2 (by decide) (lw_g_mk tw_43 rfl) rfl dX2_advance_119 ?_
        refine x_bald C _ (c_Text) hg10 dX2_advance_122 ?_
        refine x_bipush C (v := 48) dX2_advance_123 (by decide) ?_
        have hJ13 : ∀ (r9 : Mem), jX2_advance_149 b0 = some r9 → (∀ (pc9 : Nat) (lcs9 : List (Nat × Value)), decode cX2_advance pc9 = .ok (.return_, 1) → X p l e R s m args below meth c 1 cy D B 0 0 Q pc9 lcs9 [] r9 Y) → X p l e R s m args below meth c 1 cy D B 0 0 Q 149 [(0, .ref (B + oIn))] [] (wI b0 9 0 0 (rI b0 8 0 0)) Y := by
          intro res9 h hret
          unfold jX2_advance_149 at h
          refine x_aload_n C dX2_advance_149 rfl 0 rfl ?_
          refine x_aload_n C dX2_advance_150 rfl 0 rfl ?_
          refine x_get C (C1 := "HostelBeds$Input") (T := TX2) (N := 7) (ci := 4) inXg2 _ (c_In) rfl 0 (by decide) (lw_g_mk tw_40 rfl) rfl dX2_advance_151 ?_
          refine x_aload_n C dX2_advance_154 rfl 0 rfl ?_
          refine x_get C (C1 := "HostelBeds$Input") (T := TX2) (N := 7) (ci := 4) inXg2 _ (c_In) rfl 2 (by decide) (lw_g_mk tw_43 rfl) rfl dX2_advance_155 ?_
          refine x_bald C _ (c_Text) hg10 dX2_advance_158 ?_
          refine x_bipush C (v := 59) dX2_advance_159 (by decide) ?_
          have hJ11 : ∀ (t1 : Int32) (r9 : Mem), jX2_advance_169 b0 t1 = some r9 → (∀ (pc9 : Nat) (lcs9 : List (Nat × Value)), decode cX2_advance pc9 = .ok (.return_, 1) → X p l e R s m args below meth c 1 cy D B 0 0 Q pc9 lcs9 [] r9 Y) → X p l e R s m args below meth c 1 cy D B 0 0 Q 169 [(0, .ref (B + oIn))] [.int t1, .ref (B + oIn)] (wI b0 9 0 0 (rI b0 8 0 0)) Y := by
            intro t1 res9 h hret
            unfold jX2_advance_169 at h
            refine x_put C (C1 := "HostelBeds$Input") (T := TX2) (N := 7) (ci := 4) inXg2 tyX2 tyX2_ok nmX2 _ (c_In) rfl 4 (by decide) (lw_g_mk tw_45 rfl) rfl rfl rfl rfl (Nat.le_of_ble_eq_true rfl) dX2_advance_169 (s_In_token) ?_
            refine x_aload_n C dX2_advance_172 rfl 0 rfl ?_
            refine x_dup C dX2_advance_173 rfl ?_
            refine x_get C (C1 := "HostelBeds$Input") (T := TX2) (N := 7) (ci := 4) inXg2 _ (c_In) rfl 2 (by decide) (lw_g_mk tw_43 rfl) rfl dX2_advance_174 ?_
            refine x_iconst C (v := 1) dX2_advance_177 (by decide) ?_
            refine x_iadd C dX2_advance_178 ?_
            refine x_put C (C1 := "HostelBeds$Input") (T := TX2) (N := 7) (ci := 4) inXg2 tyX2 tyX2_ok nmX2 _ (c_In) rfl 2 (by decide) (lw_g_mk tw_43 rfl) rfl rfl rfl rfl (Nat.le_of_ble_eq_true rfl) dX2_advance_179 (s_In_at) ?_
            cases h
            exact hret _ _ dX2_advance_182
          refine x_icmp_ne C (tgt := 168) dX2_advance_161 (by decide) (fun hc12 => ?_) (fun hc12 => ?_)
          · rw [if_pos hc12] at h
            refine x_iconst C (v := 4) dX2_advance_168 (by decide) ?_
            exact hJ11 (4 : Int32) _ h hret
          · rw [if_neg hc12] at h
            refine x_iconst C (v := 3) dX2_advance_164 (by decide) ?_
            refine x_goto C (tgt := 169) dX2_advance_165 (by decide) ?_
            exact hJ11 (3 : Int32) _ h hret
        refine x_icmp_lt C (tgt := 149) dX2_advance_125 (by decide) (fun hc14 => ?_) (fun hc14 => ?_)
        · rw [if_pos hc14] at h
          exact hJ13 _ h hret
        · rw [if_neg hc14] at h
          refine x_aload_n C dX2_advance_128 rfl 0 rfl ?_
          refine x_get C (C1 := "HostelBeds$Input") (T := TX2) (N := 7) (ci := 4) inXg2 _ (c_In) rfl 0 (by decide) (lw_g_mk tw_40 rfl) rfl dX2_advance_129 ?_
          refine x_aload_n C dX2_advance_132 rfl 0 rfl ?_
          refine x_get C (C1 := "HostelBeds$Input") (T := TX2) (N := 7) (ci := 4) inXg2 _ (c_In) rfl 2 (by decide) (lw_g_mk tw_43 rfl) rfl dX2_advance_133 ?_
          refine x_bald C _ (c_Text) hg10 dX2_advance_136 ?_
          refine x_bipush C (v := 57) dX2_advance_137 (by decide) ?_
          refine x_icmp_gt C (tgt := 149) dX2_advance_139 (by decide) (fun hc15 => ?_) (fun hc15 => ?_)
          · rw [if_pos hc15] at h
            exact hJ13 _ h hret
          · rw [if_neg hc15] at h
            refine x_aload_n C dX2_advance_142 rfl 0 rfl ?_
            obtain ⟨q2, hk16, h⟩ := Option.bind_eq_some_iff.mp h
            refine x_callV C (As := []) (rest := []) (lw_g_mk tw_587 rfl) (lw_g_mk tw_588 rfl) (c_In) (C1 := "HostelBeds$Input") (T := TX2) (N := 7) (ci := 4) rfl (okX2_takeNumber l cy D B ek (wI b0 9 0 0 (rI b0 8 0 0)) Y _ hk16) rfl rfl (by rw [hR9]; decide) (lw_g_mk tw_589 rfl) (lw_g_mk tw_2 rfl) (by decide) rfl (lw_g_mk tw_586 rfl) rfl (Nat.le_of_ble_eq_true rfl) dX2_advance_143 (by rw [hR9]; decide) ?_
            refine x_goto C (tgt := 182) dX2_advance_146 (by decide) ?_
            cases h
            exact hret _ _ dX2_advance_182
      refine x_icmp_lt C (tgt := 114) dX2_advance_90 (by decide) (fun hc18 => ?_) (fun hc18 => ?_)
      · rw [if_pos hc18] at h
        exact hJ17 _ h hret
      · rw [if_neg hc18] at h
        refine x_aload_n C dX2_advance_93 rfl 0 rfl ?_
        refine x_get C (C1 := "HostelBeds$Input") (T := TX2) (N := 7) (ci := 4) inXg2 _ (c_In) rfl 0 (by decide) (lw_g_mk tw_40 rfl) rfl dX2_advance_94 ?_
        refine x_aload_n C dX2_advance_97 rfl 0 rfl ?_
        refine x_get C (C1 := "HostelBeds$Input") (T := TX2) (N := 7) (ci := 4) inXg2 _ (c_In) rfl 2 (by decide) (lw_g_mk tw_43 rfl) rfl dX2_advance_98 ?_
        refine x_bald C _ (c_Text) hg10 dX2_advance_101 ?_
        refine x_bipush C (v := 122) dX2_advance_102 (by decide) ?_
        refine x_icmp_gt C (tgt := 114) dX2_advance_104 (by decide) (fun hc19 => ?_) (fun hc19 => ?_)
        · rw [if_pos hc19] at h
          exact hJ17 _ h hret
        · rw [if_neg hc19] at h
          refine x_aload_n C dX2_advance_107 rfl 0 rfl ?_
          obtain ⟨q3, hk20, h⟩ := Option.bind_eq_some_iff.mp h
          refine x_callV C (As := []) (rest := []) (lw_g_mk tw_583 rfl) (lw_g_mk tw_584 rfl) (c_In) (C1 := "HostelBeds$Input") (T := TX2) (N := 7) (ci := 4) rfl (okX2_takeWord l cy D B ek (wI b0 9 0 0 (rI b0 8 0 0)) Y _ hk20) rfl rfl (by rw [hR9]; decide) (lw_g_mk tw_585 rfl) (lw_g_mk tw_2 rfl) (by decide) rfl (lw_g_mk tw_582 rfl) rfl (Nat.le_of_ble_eq_true rfl) dX2_advance_108 (by rw [hR9]; decide) ?_
          refine x_goto C (tgt := 182) dX2_advance_111 (by decide) ?_
          cases h
          exact hret _ _ dX2_advance_182
    · rw [if_neg hc9] at h
      refine x_aload_n C dX2_advance_71 rfl 0 rfl ?_
      refine x_iconst C (v := 0) dX2_advance_72 (by decide) ?_
      refine x_put C (C1 := "HostelBeds$Input") (T := TX2) (N := 7) (ci := 4) inXg2 tyX2 tyX2_ok nmX2 _ (c_In) rfl 4 (by decide) (lw_g_mk tw_45 rfl) rfl rfl rfl rfl (Nat.le_of_ble_eq_true rfl) dX2_advance_73 (s_In_token) ?_
      refine x_goto C (tgt := 182) dX2_advance_76 (by decide) ?_
      cases h
      exact hret _ _ dX2_advance_182
def stX2_isWord_28 (j1 : Nat) (σ : Mem) (a28 : Int32) : Option ((Int32) ⊕ ((Unit) ⊕ (Int32))) := ((fJ0_length_8abf5 j1).bind fun q2 => (if q2 ≤ a28 then (some (.inr (.inl ()))) else (gd (inb ((rI σ 9 0 0) + a28) 700) ((fJ0_charAt_5068e j1 a28).bind fun q3 => (if (rI σ 6 0 ((rI σ 9 0 0) + a28).toNatClampNeg) = q3 then (some (.inl (a28 + (1 : Int32)))) else (some (.inr (.inr ((0 : Int32))))))))))
def fX2_isWord (j1 : Nat) (σ : Mem) : Option (Int32) := (if ¬ (rI σ 10 0 0) = (1 : Int32) then (some ((0 : Int32))) else ((fJ0_length_8abf5 j1).bind fun q1 => (if ((rI σ 8 0 0) - (rI σ 9 0 0)) = q1 then ((loop (stX2_isWord_28 j1 σ) 5000 ((0 : Int32))).bind fun b28 => Sum.elim (fun z28 => (some ((1 : Int32)))) (fun w28 => (some w28)) b28) else (some ((0 : Int32))))))
set_option maxHeartbeats 4000000 in
set_option maxRecDepth 100000 in
theorem okX2_isWord (l : Launch) (cy : Nat → ClassId) (D : va_G) (B : Nat) (ek : EK) (j1 : Nat) (σ : Mem) (Y : va_W) (hj1 : j1 < 18) (res : Int32) (h : fX2_isWord j1 σ = some res) : CT l cy D B ek yX2_isWord cX2_isWord 3 (some .boolean) ({ frames := 7, cells := 0, slots := 0, locals := 141 } : Room) [.ref (B + oIn), .ref (ek.1 j1)] σ Y (some (.int res)) σ Y := by
  refine met_X (own := "HostelBeds$Input") (by decide) rfl (Nat.le_of_ble_eq_true rfl) ?_
  intro p e s m args below meth c C hrT hlk
  have hret : ∀ (pc9 : Nat) (lcs9 : List (Nat × Value)), decode cX2_isWord pc9 = .ok (.ireturn, 1) → narrow .boolean (.int res) = .int res → X p l e ({ frames := 7, cells := 0, slots := 0, locals := 141 } : Room) s m args below meth c 3 cy D B 0 0 (MQ below (QR cy D B (some (.int res)) σ Y) args s 0 0 (aB B)) pc9 lcs9 [.int res] σ Y := fun _ _ hd hn => x_zret C hrT hlk hn hd
  generalize (MQ below (QR cy D B (some (.int res)) σ Y) args s 0 0 (aB B)) = Q at hret ⊢
  obtain ⟨R, hR9⟩ : ∃ R : Room, R = ({ frames := 7, cells := 0, slots := 0, locals := 141 } : Room) := ⟨_, rfl⟩
  rw [← hR9] at hret ⊢
  unfold fX2_isWord at h
  show X p l e R s m args below meth c 3 cy D B 0 0 Q 0 [(0, .ref (B + oIn)), (1, .ref (ek.1 j1))] [] σ Y
  refine x_aload_n C dX2_isWord_0 rfl 0 rfl ?_
  refine x_get C (C1 := "HostelBeds$Input") (T := TX2) (N := 7) (ci := 4) inXg2 _ (c_In) rfl 4 (by decide) (lw_g_mk tw_45 rfl) rfl dX2_isWord_1 ?_
  refine x_iconst C (v := 1) dX2_isWord_4 (by decide) ?_
  refine x_icmp_ne C (tgt := 24) dX2_isWord_5 (by decide) (fun hc1 => ?_) (fun hc1 => ?_)
  · rw [if_pos hc1] at h
    refine x_iconst C (v := 0) dX2_isWord_24 (by decide) ?_
    cases h
    exact hret _ _ dX2_isWord_25 (nar_Z (Or.inl rfl))
  · rw [if_neg hc1] at h
    refine x_aload_n C dX2_isWord_8 rfl 0 rfl ?_
    refine x_get C (C1 := "HostelBeds$Input") (T := TX2) (N := 7) (ci := 4) inXg2 _ (c_In) rfl 2 (by decide) (lw_g_mk tw_43 rfl) rfl dX2_isWord_9 ?_
    refine x_aload_n C dX2_isWord_12 rfl 0 rfl ?_
    refine x_get C (C1 := "HostelBeds$Input") (T := TX2) (N := 7) (ci := 4) inXg2 _ (c_In) rfl 3 (by decide) (lw_g_mk tw_44 rfl) rfl dX2_isWord_13 ?_
    refine x_isub C dX2_isWord_16 ?_
    refine x_aload_n C dX2_isWord_17 rfl 1 rfl ?_
    obtain ⟨q1, hk2, h⟩ := Option.bind_eq_some_iff.mp h
    refine x_callT C (As := []) (rest := [.int ((rI σ 8 0 0) - (rI σ 9 0 0))]) (i := j1) hj1 (lw_g_mk tw_494 rfl) (lw_g_mk tw_495 rfl) (okJ0_length_8abf5 l cy D B ek j1 σ Y hj1 _ hk2) rfl rfl (by rw [hR9]; decide) (lw_g_mk tw_496 rfl) (lw_g_mk tw_13 rfl) (by decide) rfl (lw_g_mk tw_595 rfl) rfl (Nat.le_of_ble_eq_true rfl) dX2_isWord_18 (by rw [hR9]; decide) ?_
    refine x_icmp_eq C (tgt := 26) dX2_isWord_21 (by decide) (fun hc3 => ?_) (fun hc3 => ?_)
    · rw [if_pos hc3] at h
      refine x_iconst C (v := 0) dX2_isWord_26 (by decide) ?_
      refine x_istore_n C [(2, .int (0 : Int32)), (0, .ref (B + oIn)), (1, .ref (ek.1 j1))] dX2_isWord_27 rfl (by decide) rfl ?_
      obtain ⟨b28, hk11, h⟩ := Option.bind_eq_some_iff.mp h
      refine x_sub [1, 2, 0] rfl ?_
      refine loop_run (step := stX2_isWord_28 j1 σ) (P := fun (a28 : Int32) => X p l e R s m args below meth c 3 cy D B 0 0 Q 28 [(0, .ref (B + oIn)), (1, .ref (ek.1 j1)), (2, .int a28)] [] σ Y) (K := fun (b28 : (Unit) ⊕ (Int32)) => Sum.elim (fun z28 => X p l e R s m args below meth c 3 cy D B 0 0 Q 63 [] [] σ Y) (fun w28 => ∀ (pc9 : Nat) (lcs9 : List (Nat × Value)), decode cX2_isWord pc9 = .ok (.ireturn, 1) → narrow .boolean (.int w28) = .int w28 → X p l e R s m args below meth c 3 cy D B 0 0 Q pc9 lcs9 [.int w28] σ Y) b28) ?_ 5000 ((0 : Int32)) b28 hk11 ?_
      · intro a28 r h hA4 hB5
        unfold stX2_isWord_28 at h
        refine x_iload_n C dX2_isWord_28 rfl 2 rfl ?_
        refine x_aload_n C dX2_isWord_29 rfl 1 rfl ?_
        obtain ⟨q2, hk6, h⟩ := Option.bind_eq_some_iff.mp h
        refine x_callT C (As := []) (rest := [.int a28]) (i := j1) hj1 (lw_g_mk tw_494 rfl) (lw_g_mk tw_495 rfl) (okJ0_length_8abf5 l cy D B ek j1 σ Y hj1 _ hk6) rfl rfl (by rw [hR9]; decide) (lw_g_mk tw_496 rfl) (lw_g_mk tw_13 rfl) (by decide) rfl (lw_g_mk tw_595 rfl) rfl (Nat.le_of_ble_eq_true rfl) dX2_isWord_30 (by rw [hR9]; decide) ?_
        refine x_icmp_ge C (tgt := 63) dX2_isWord_33 (by decide) (fun hc7 => ?_) (fun hc7 => ?_)
        · rw [if_pos hc7] at h
          cases h
          refine x_sub [] rfl ?_
          exact hB5 (.inl ()) rfl
        · rw [if_neg hc7] at h
          refine x_aload_n C dX2_isWord_36 rfl 0 rfl ?_
          refine x_get C (C1 := "HostelBeds$Input") (T := TX2) (N := 7) (ci := 4) inXg2 _ (c_In) rfl 0 (by decide) (lw_g_mk tw_40 rfl) rfl dX2_isWord_37 ?_
          refine x_aload_n C dX2_isWord_40 rfl 0 rfl ?_
          refine x_get C (C1 := "HostelBeds$Input") (T := TX2) (N := 7) (ci := 4) inXg2 _ (c_In) rfl 3 (by decide) (lw_g_mk tw_44 rfl) rfl dX2_isWord_41 ?_
          refine x_iload_n C dX2_isWord_44 rfl 2 rfl ?_
          refine x_iadd C dX2_isWord_45 ?_
          obtain ⟨hg8, h⟩ := gd_some h
          refine x_bald C _ (c_Text) hg8 dX2_isWord_46 ?_
          refine x_aload_n C dX2_isWord_47 rfl 1 rfl ?_
          refine x_iload_n C dX2_isWord_48 rfl 2 rfl ?_
          obtain ⟨q3, hk9, h⟩ := Option.bind_eq_some_iff.mp h
          refine x_callT C (As := [.int a28]) (rest := [.int (rI σ 6 0 ((rI σ 9 0 0) + a28).toNatClampNeg)]) (i := j1) hj1 (lw_g_mk tw_504 rfl) (lw_g_mk tw_505 rfl) (okJ0_charAt_5068e l cy D B ek j1 a28 σ Y hj1 _ hk9) rfl rfl (by rw [hR9]; decide) (lw_g_mk tw_506 rfl) (lw_g_mk tw_13 rfl) (by decide) rfl (lw_g_mk tw_596 rfl) rfl (Nat.le_of_ble_eq_true rfl) dX2_isWord_49 (by rw [hR9]; decide) ?_
          refine x_icmp_eq C (tgt := 57) dX2_isWord_52 (by decide) (fun hc10 => ?_) (fun hc10 => ?_)
          · rw [if_pos hc10] at h
            refine x_iinc C (k := 2) [(2, .int (a28 + (1 : Int32))), (0, .ref (B + oIn)), (1, .ref (ek.1 j1))] dX2_isWord_57 rfl rfl (by decide) rfl ?_
            refine x_goto C (tgt := 28) dX2_isWord_60 (by decide) ?_
            cases h
            refine x_sub [1, 2, 0] rfl ?_
            exact hA4 (a28 + (1 : Int32)) rfl
          · rw [if_neg hc10] at h
            refine x_iconst C (v := 0) dX2_isWord_55 (by decide) ?_
            cases h
            exact hB5 (.inr ((0 : Int32))) rfl _ _ dX2_isWord_56 (nar_Z (Or.inl rfl))
      · rcases b28 with z28 | w28
        · rw [Sum.elim_inl] at h
          show X p l e R s m args below meth c 3 cy D B 0 0 Q 63 [] [] σ Y
          refine x_iconst C (v := 1) dX2_isWord_63 (by decide) ?_
          cases h
          exact hret _ _ dX2_isWord_64 (nar_Z (Or.inr rfl))
        · rw [Sum.elim_inr] at h
          show ∀ (pc9 : Nat) (lcs9 : List (Nat × Value)), decode cX2_isWord pc9 = .ok (.ireturn, 1) → narrow .boolean (.int w28) = .int w28 → X p l e R s m args below meth c 3 cy D B 0 0 Q pc9 lcs9 [.int w28] σ Y
          cases h
          exact hret
    · rw [if_neg hc3] at h
      refine x_iconst C (v := 0) dX2_isWord_24 (by decide) ?_
      cases h
      exact hret _ _ dX2_isWord_25 (nar_Z (Or.inl rfl))
def jX2_readBooked_47 (q1 : Mem) : Option (Int32 × Mem) := (some ((-1 : Int32), q1))
def jX2_readBooked_24 (q1 : Mem) (j1 : Nat) (t2 : Int32) : Option (Int32 × Mem) := (if t2 = (-1 : Int32) then (jX2_readBooked_47 q1) else (gd (inb t2 17) (if (rI q1 49 j1 t2.toNatClampNeg) = (2 : Int32) then (jX2_readBooked_47 q1) else (some (t2, q1)))))
def fX2_readBooked (j1 : Nat) (σ : Mem) : Option (Int32 × Mem) := ((fX2_advance σ).bind fun q1 => (if ¬ (rI q1 10 0 0) = (1 : Int32) then (jX2_readBooked_24 q1 j1 (-1 : Int32)) else ((fX1_bookingNamed j1 (rJ q1 0 0 0) q1).bind fun q3 => (jX2_readBooked_24 q1 j1 q3))))
set_option maxHeartbeats 4000000 in
set_option maxRecDepth 100000 in
theorem okX2_readBooked (l : Launch) (cy : Nat → ClassId) (D : va_G) (B : Nat) (ek : EK) (j1 : Nat) (σ : Mem) (Y : va_W) (hj1 : j1 < 12) (res : Int32 × Mem) (h : fX2_readBooked j1 σ = some res) : CT l cy D B ek yX2_readBooked cX2_readBooked 3 (some .int) ({ frames := 2, cells := 0, slots := 0, locals := 40 } : Room) [.ref (B + oIn), .ref (B + oHo j1)] σ Y (some (.int res.1)) res.2 Y := by
  refine met_X (own := "HostelBeds$Input") (by decide) rfl (Nat.le_of_ble_eq_true rfl) ?_
  intro p e s m args below meth c C hrT hlk
  have hret : ∀ (pc9 : Nat) (lcs9 : List (Nat × Value)), decode cX2_readBooked pc9 = .ok (.ireturn, 1) → narrow .int (.int res.1) = .int res.1 → X p l e ({ frames := 2, cells := 0, slots := 0, locals := 40 } : Room) s m args below meth c 3 cy D B 0 0 (MQ below (QR cy D B (some (.int res.1)) res.2 Y) args s 0 0 (aB B)) pc9 lcs9 [.int res.1] res.2 Y := fun _ _ hd hn => x_zret C hrT hlk hn hd
  generalize (MQ below (QR cy D B (some (.int res.1)) res.2 Y) args s 0 0 (aB B)) = Q at hret ⊢
  obtain ⟨R, hR9⟩ : ∃ R : Room, R = ({ frames := 2, cells := 0, slots := 0, locals := 40 } : Room) := ⟨_, rfl⟩
  rw [← hR9] at hret ⊢
  unfold fX2_readBooked at h
  show X p l e R s m args below meth c 3 cy D B 0 0 Q 0 [(0, .ref (B + oIn)), (1, .ref (B + oHo j1))] [] σ Y
  refine x_aload_n C dX2_readBooked_0 rfl 0 rfl ?_
  obtain ⟨q1, hk1, h⟩ := Option.bind_eq_some_iff.mp h
  refine x_callV C (As := []) (rest := []) (lw_g_mk tw_579 rfl) (lw_g_mk tw_580 rfl) (c_In) (C1 := "HostelBeds$Input") (T := TX2) (N := 7) (ci := 4) rfl (okX2_advance l cy D B ek σ Y _ hk1) rfl rfl (by rw [hR9]; decide) (lw_g_mk tw_581 rfl) (lw_g_mk tw_2 rfl) (by decide) rfl (lw_g_mk tw_578 rfl) rfl (Nat.le_of_ble_eq_true rfl) dX2_readBooked_1 (by rw [hR9]; decide) ?_
  refine x_aload_n C dX2_readBooked_4 rfl 0 rfl ?_
  refine x_get C (C1 := "HostelBeds$Input") (T := TX2) (N := 7) (ci := 4) inXg2 _ (c_In) rfl 4 (by decide) (lw_g_mk tw_45 rfl) rfl dX2_readBooked_5 ?_
  refine x_iconst C (v := 1) dX2_readBooked_8 (by decide) ?_
  have hJ6 : ∀ (t2 : Int32) (r9 : Int32 × Mem), jX2_readBooked_24 q1 j1 t2 = some r9 → (∀ (pc9 : Nat) (lcs9 : List (Nat × Value)), decode cX2_readBooked pc9 = .ok (.ireturn, 1) → narrow .int (.int r9.1) = .int r9.1 → X p l e R s m args below meth c 3 cy D B 0 0 Q pc9 lcs9 [.int r9.1] r9.2 Y) → X p l e R s m args below meth c 3 cy D B 0 0 Q 24 [(1, .ref (B + oHo j1))] [.int t2] q1 Y := by
    intro t2 res9 h hret
    unfold jX2_readBooked_24 at h
    refine x_istore_n C [(2, .int t2), (1, .ref (B + oHo j1))] dX2_readBooked_24 rfl (by decide) rfl ?_
    refine x_iload_n C dX2_readBooked_25 rfl 0 rfl ?_
    refine x_iconst C (v := -1) dX2_readBooked_26 (by decide) ?_
    have hJ2 : ∀ (r9 : Int32 × Mem), jX2_readBooked_47 q1 = some r9 → (∀ (pc9 : Nat) (lcs9 : List (Nat × Value)), decode cX2_readBooked pc9 = .ok (.ireturn, 1) → narrow .int (.int r9.1) = .int r9.1 → X p l e R s m args below meth c 3 cy D B 0 0 Q pc9 lcs9 [.int r9.1] r9.2 Y) → X p l e R s m args below meth c 3 cy D B 0 0 Q 47 [] [] q1 Y := by
      intro res9 h hret
      unfold jX2_readBooked_47 at h
      refine x_iconst C (v := -1) dX2_readBooked_47 (by decide) ?_
      cases h
      exact hret _ _ dX2_readBooked_48 rfl
    refine x_icmp_eq C (tgt := 47) dX2_readBooked_27 (by decide) (fun hc3 => ?_) (fun hc3 => ?_)
    · rw [if_pos hc3] at h
      refine x_sub [] rfl ?_
      exact hJ2 _ h hret
    · rw [if_neg hc3] at h
      refine x_aload_n C dX2_readBooked_30 rfl 1 rfl ?_
      refine x_get C (C1 := "HostelBeds$Hostel") (T := TX1) (N := 12) (ci := 3) inXg1 _ (c_Ho hj1) rfl 3 (by decide) (lw_g_mk tw_196 rfl) rfl dX2_readBooked_31 ?_
      refine x_iload_n C dX2_readBooked_34 rfl 0 rfl ?_
      obtain ⟨hg4, h⟩ := gd_some h
      refine x_aldq C _ 6 (C1 := "HostelBeds$Booking") (c_Bks hj1) rfl hg4 rfl dX2_readBooked_35 ?_
      refine x_get C (C1 := "HostelBeds$Booking") (T := TX0) (N := 11) (ci := 2) inXg0 _ (c_Bk hj1 (inb_lt hg4)) rfl 10 (by decide) (lw_g_mk tw_150 rfl) rfl dX2_readBooked_36 ?_
      refine x_iconst C (v := 2) dX2_readBooked_39 (by decide) ?_
      refine x_icmp_eq C (tgt := 47) dX2_readBooked_40 (by decide) (fun hc5 => ?_) (fun hc5 => ?_)
      · rw [if_pos hc5] at h
        refine x_sub [] rfl ?_
        exact hJ2 _ h hret
      · rw [if_neg hc5] at h
        refine x_iload_n C dX2_readBooked_43 rfl 0 rfl ?_
        refine x_goto C (tgt := 48) dX2_readBooked_44 (by decide) ?_
        cases h
        exact hret _ _ dX2_readBooked_48 rfl
  refine x_icmp_ne C (tgt := 23) dX2_readBooked_9 (by decide) (fun hc7 => ?_) (fun hc7 => ?_)
  · rw [if_pos hc7] at h
    refine x_iconst C (v := -1) dX2_readBooked_23 (by decide) ?_
    refine x_sub [1] rfl ?_
    exact hJ6 (-1 : Int32) _ h hret
  · rw [if_neg hc7] at h
    refine x_aload_n C dX2_readBooked_12 rfl 1 rfl ?_
    refine x_aload_n C dX2_readBooked_13 rfl 0 rfl ?_
    refine x_get C (C1 := "HostelBeds$Input") (T := TX2) (N := 7) (ci := 4) inXg2 _ (c_In) rfl 5 (by decide) (lw_g_mk tw_46 rfl) rfl dX2_readBooked_14 ?_
    obtain ⟨q3, hk8, h⟩ := Option.bind_eq_some_iff.mp h
    refine x_callV C (As := [.long (rJ q1 0 0 0)]) (rest := []) (lw_g_mk tw_626 rfl) (lw_g_mk tw_627 rfl) (c_Ho hj1) (C1 := "HostelBeds$Hostel") (T := TX1) (N := 12) (ci := 3) rfl (okX1_bookingNamed l cy D B ek j1 (rJ q1 0 0 0) q1 Y hj1 _ hk8) rfl rfl (by rw [hR9]; decide) (lw_g_mk tw_628 rfl) (lw_g_mk tw_3 rfl) (by decide) rfl (lw_g_mk tw_625 rfl) rfl (Nat.le_of_ble_eq_true rfl) dX2_readBooked_17 (by rw [hR9]; decide) ?_
    refine x_goto C (tgt := 24) dX2_readBooked_20 (by decide) ?_
    refine x_sub [1] rfl ?_
    exact hJ6 q3 _ h hret
def fX2_readEnd (σ : Mem) : Option (Int32 × Mem) := ((fX2_advance σ).bind fun q1 => (if ¬ (rI q1 10 0 0) = (3 : Int32) then (some ((0 : Int32), q1)) else (some ((1 : Int32), q1))))
set_option maxHeartbeats 4000000 in
set_option maxRecDepth 100000 in
theorem okX2_readEnd (l : Launch) (cy : Nat → ClassId) (D : va_G) (B : Nat) (ek : EK) (σ : Mem) (Y : va_W) (res : Int32 × Mem) (h : fX2_readEnd σ = some res) : CT l cy D B ek yX2_readEnd cX2_readEnd 1 (some .boolean) ({ frames := 2, cells := 0, slots := 0, locals := 40 } : Room) [.ref (B + oIn)] σ Y (some (.int res.1)) res.2 Y := by
  refine met_X (own := "HostelBeds$Input") (by decide) rfl (Nat.le_of_ble_eq_true rfl) ?_
  intro p e s m args below meth c C hrT hlk
  have hret : ∀ (pc9 : Nat) (lcs9 : List (Nat × Value)), decode cX2_readEnd pc9 = .ok (.ireturn, 1) → narrow .boolean (.int res.1) = .int res.1 → X p l e ({ frames := 2, cells := 0, slots := 0, locals := 40 } : Room) s m args below meth c 1 cy D B 0 0 (MQ below (QR cy D B (some (.int res.1)) res.2 Y) args s 0 0 (aB B)) pc9 lcs9 [.int res.1] res.2 Y := fun _ _ hd hn => x_zret C hrT hlk hn hd
  generalize (MQ below (QR cy D B (some (.int res.1)) res.2 Y) args s 0 0 (aB B)) = Q at hret ⊢
  obtain ⟨R, hR9⟩ : ∃ R : Room, R = ({ frames := 2, cells := 0, slots := 0, locals := 40 } : Room) := ⟨_, rfl⟩
  rw [← hR9] at hret ⊢
  unfold fX2_readEnd at h
  show X p l e R s m args below meth c 1 cy D B 0 0 Q 0 [(0, .ref (B + oIn))] [] σ Y
  refine x_aload_n C dX2_readEnd_0 rfl 0 rfl ?_
  obtain ⟨q1, hk1, h⟩ := Option.bind_eq_some_iff.mp h
  refine x_callV C (As := []) (rest := []) (lw_g_mk tw_579 rfl) (lw_g_mk tw_580 rfl) (c_In) (C1 := "HostelBeds$Input") (T := TX2) (N := 7) (ci := 4) rfl (okX2_advance l cy D B ek σ Y _ hk1) rfl rfl (by rw [hR9]; decide) (lw_g_mk tw_581 rfl) (lw_g_mk tw_2 rfl) (by decide) rfl (lw_g_mk tw_578 rfl) rfl (Nat.le_of_ble_eq_true rfl) dX2_readEnd_1 (by rw [hR9]; decide) ?_
  refine x_aload_n C dX2_readEnd_4 rfl 0 rfl ?_
  refine x_get C (C1 := "HostelBeds$Input") (T := TX2) (N := 7) (ci := 4) inXg2 _ (c_In) rfl 4 (by decide) (lw_g_mk tw_45 rfl) rfl dX2_readEnd_5 ?_
  refine x_iconst C (v := 3) dX2_readEnd_8 (by decide) ?_
  refine x_icmp_ne C (tgt := 16) dX2_readEnd_9 (by decide) (fun hc2 => ?_) (fun hc2 => ?_)
  · rw [if_pos hc2] at h
    refine x_iconst C (v := 0) dX2_readEnd_16 (by decide) ?_
    cases h
    exact hret _ _ dX2_readEnd_17 (nar_Z (Or.inl rfl))
  · rw [if_neg hc2] at h
    refine x_iconst C (v := 1) dX2_readEnd_12 (by decide) ?_
    refine x_goto C (tgt := 17) dX2_readEnd_13 (by decide) ?_
    cases h
    exact hret _ _ dX2_readEnd_17 (nar_Z (Or.inr rfl))
def fX2_readAbsent (j1 : Nat) (σ : Mem) : Option (Int32 × Mem) := ((fX2_readBooked j1 σ).bind fun q1 => (if q1.1 = (-1 : Int32) then (some ((0 : Int32), q1.2)) else ((fX2_readEnd q1.2).bind fun q2 => (if ¬ q2.1 = 0 then (gd (inb q1.1 17) (some ((1 : Int32), wI q2.2 48 j1 q1.1.toNatClampNeg (1 : Int32)))) else (some ((0 : Int32), q2.2))))))
set_option maxHeartbeats 4000000 in
set_option maxRecDepth 100000 in
theorem okX2_readAbsent (l : Launch) (cy : Nat → ClassId) (D : va_G) (B : Nat) (ek : EK) (j1 : Nat) (σ : Mem) (Y : va_W) (hj1 : j1 < 12) (res : Int32 × Mem) (h : fX2_readAbsent j1 σ = some res) : CT l cy D B ek yX2_readAbsent cX2_readAbsent 3 (some .boolean) ({ frames := 3, cells := 0, slots := 0, locals := 62 } : Room) [.ref (B + oIn), .ref (B + oHo j1)] σ Y (some (.int res.1)) res.2 Y := by
  refine met_X (own := "HostelBeds$Input") (by decide) rfl (Nat.le_of_ble_eq_true rfl) ?_
  intro p e s m args below meth c C hrT hlk
  have hret : ∀ (pc9 : Nat) (lcs9 : List (Nat × Value)), decode cX2_readAbsent pc9 = .ok (.ireturn, 1) → narrow .boolean (.int res.1) = .int res.1 → X p l e ({ frames := 3, cells := 0, slots := 0, locals := 62 } : Room) s m args below meth c 3 cy D B 0 0 (MQ below (QR cy D B (some (.int res.1)) res.2 Y) args s 0 0 (aB B)) pc9 lcs9 [.int res.1] res.2 Y := fun _ _ hd hn => x_zret C hrT hlk hn hd
  generalize (MQ below (QR cy D B (some (.int res.1)) res.2 Y) args s 0 0 (aB B)) = Q at hret ⊢
  obtain ⟨R, hR9⟩ : ∃ R : Room, R = ({ frames := 3, cells := 0, slots := 0, locals := 62 } : Room) := ⟨_, rfl⟩
  rw [← hR9] at hret ⊢
  unfold fX2_readAbsent at h
  show X p l e R s m args below meth c 3 cy D B 0 0 Q 0 [(0, .ref (B + oIn)), (1, .ref (B + oHo j1))] [] σ Y
  refine x_aload_n C dX2_readAbsent_0 rfl 0 rfl ?_
  refine x_aload_n C dX2_readAbsent_1 rfl 1 rfl ?_
  obtain ⟨q1, hk1, h⟩ := Option.bind_eq_some_iff.mp h
  refine x_callV C (As := [.ref (B + oHo j1)]) (rest := []) (lw_g_mk tw_671 rfl) (lw_g_mk tw_672 rfl) (c_In) (C1 := "HostelBeds$Input") (T := TX2) (N := 7) (ci := 4) rfl (okX2_readBooked l cy D B ek j1 σ Y hj1 _ hk1) rfl rfl (by rw [hR9]; decide) (lw_g_mk tw_673 rfl) (lw_g_mk tw_2 rfl) (by decide) rfl (lw_g_mk tw_670 rfl) rfl (Nat.le_of_ble_eq_true rfl) dX2_readAbsent_2 (by rw [hR9]; decide) ?_
  refine x_istore_n C [(2, .int q1.1), (0, .ref (B + oIn)), (1, .ref (B + oHo j1))] dX2_readAbsent_5 rfl (by decide) rfl ?_
  refine x_iload_n C dX2_readAbsent_6 rfl 0 rfl ?_
  refine x_iconst C (v := -1) dX2_readAbsent_7 (by decide) ?_
  refine x_icmp_eq C (tgt := 18) dX2_readAbsent_8 (by decide) (fun hc2 => ?_) (fun hc2 => ?_)
  · rw [if_pos hc2] at h
    refine x_iconst C (v := 0) dX2_readAbsent_18 (by decide) ?_
    cases h
    exact hret _ _ dX2_readAbsent_19 (nar_Z (Or.inl rfl))
  · rw [if_neg hc2] at h
    refine x_aload_n C dX2_readAbsent_11 rfl 1 rfl ?_
    obtain ⟨q2, hk3, h⟩ := Option.bind_eq_some_iff.mp h
    refine x_callV C (As := []) (rest := []) (lw_g_mk tw_617 rfl) (lw_g_mk tw_618 rfl) (c_In) (C1 := "HostelBeds$Input") (T := TX2) (N := 7) (ci := 4) rfl (okX2_readEnd l cy D B ek q1.2 Y _ hk3) rfl rfl (by rw [hR9]; decide) (lw_g_mk tw_619 rfl) (lw_g_mk tw_2 rfl) (by decide) rfl (lw_g_mk tw_616 rfl) rfl (Nat.le_of_ble_eq_true rfl) dX2_readAbsent_12 (by rw [hR9]; decide) ?_
    refine x_if_ne C (tgt := 20) dX2_readAbsent_15 (by decide) (fun hc4 => ?_) (fun hc4 => ?_)
    · rw [if_pos hc4] at h
      refine x_aload_n C dX2_readAbsent_20 rfl 2 rfl ?_
      refine x_get C (C1 := "HostelBeds$Hostel") (T := TX1) (N := 12) (ci := 3) inXg1 _ (c_Ho hj1) rfl 3 (by decide) (lw_g_mk tw_196 rfl) rfl dX2_readAbsent_21 ?_
      refine x_iload_n C dX2_readAbsent_24 rfl 0 rfl ?_
      obtain ⟨hg5, h⟩ := gd_some h
      refine x_aldq C _ 6 (C1 := "HostelBeds$Booking") (c_Bks hj1) rfl hg5 rfl dX2_readAbsent_25 ?_
      refine x_iconst C (v := 1) dX2_readAbsent_26 (by decide) ?_
      refine x_put C (C1 := "HostelBeds$Booking") (T := TX0) (N := 11) (ci := 2) inXg0 tyX0 tyX0_ok nmX0 _ (c_Bk hj1 (inb_lt hg5)) rfl 9 (by decide) (lw_g_mk tw_146 rfl) rfl rfl (nar_Z (by decide)) (fit_Z (by decide)) (Nat.le_of_ble_eq_true rfl) dX2_readAbsent_27 (s_Bk_absent hj1 (inb_lt hg5)) ?_
      refine x_iconst C (v := 1) dX2_readAbsent_30 (by decide) ?_
      cases h
      exact hret _ _ dX2_readAbsent_31 (nar_Z (Or.inr rfl))
    · rw [if_neg hc4] at h
      refine x_iconst C (v := 0) dX2_readAbsent_18 (by decide) ?_
      cases h
      exact hret _ _ dX2_readAbsent_19 (nar_Z (Or.inl rfl))
def jX2_readNumber_32 (q1 : Mem) : Option (Int32 × Mem) := (some ((0 : Int32), q1))
def fX2_readNumber (p1 : Int32) (p2 : Int32) (σ : Mem) : Option (Int32 × Mem) := ((fX2_advance σ).bind fun q1 => (if ¬ (rI q1 10 0 0) = (2 : Int32) then (jX2_readNumber_32 q1) else (if (rI q1 11 0 0) < p1 then (jX2_readNumber_32 q1) else (if p2 < (rI q1 11 0 0) then (jX2_readNumber_32 q1) else (some ((1 : Int32), q1))))))
set_option maxHeartbeats 4000000 in
set_option maxRecDepth 100000 in
theorem okX2_readNumber (l : Launch) (cy : Nat → ClassId) (D : va_G) (B : Nat) (ek : EK) (p1 : Int32) (p2 : Int32) (σ : Mem) (Y : va_W) (res : Int32 × Mem) (h : fX2_readNumber p1 p2 σ = some res) : CT l cy D B ek yX2_readNumber cX2_readNumber 3 (some .boolean) ({ frames := 2, cells := 0, slots := 0, locals := 40 } : Room) [.ref (B + oIn), .int p1, .int p2] σ Y (some (.int res.1)) res.2 Y := by
  refine met_X (own := "HostelBeds$Input") (by decide) rfl (Nat.le_of_ble_eq_true rfl) ?_
  intro p e s m args below meth c C hrT hlk
  have hret : ∀ (pc9 : Nat) (lcs9 : List (Nat × Value)), decode cX2_readNumber pc9 = .ok (.ireturn, 1) → narrow .boolean (.int res.1) = .int res.1 → X p l e ({ frames := 2, cells := 0, slots := 0, locals := 40 } : Room) s m args below meth c 3 cy D B 0 0 (MQ below (QR cy D B (some (.int res.1)) res.2 Y) args s 0 0 (aB B)) pc9 lcs9 [.int res.1] res.2 Y := fun _ _ hd hn => x_zret C hrT hlk hn hd
  generalize (MQ below (QR cy D B (some (.int res.1)) res.2 Y) args s 0 0 (aB B)) = Q at hret ⊢
  obtain ⟨R, hR9⟩ : ∃ R : Room, R = ({ frames := 2, cells := 0, slots := 0, locals := 40 } : Room) := ⟨_, rfl⟩
  rw [← hR9] at hret ⊢
  unfold fX2_readNumber at h
  show X p l e R s m args below meth c 3 cy D B 0 0 Q 0 [(0, .ref (B + oIn)), (1, .int p1), (2, .int p2)] [] σ Y
  refine x_aload_n C dX2_readNumber_0 rfl 0 rfl ?_
  obtain ⟨q1, hk1, h⟩ := Option.bind_eq_some_iff.mp h
  refine x_callV C (As := []) (rest := []) (lw_g_mk tw_579 rfl) (lw_g_mk tw_580 rfl) (c_In) (C1 := "HostelBeds$Input") (T := TX2) (N := 7) (ci := 4) rfl (okX2_advance l cy D B ek σ Y _ hk1) rfl rfl (by rw [hR9]; decide) (lw_g_mk tw_581 rfl) (lw_g_mk tw_2 rfl) (by decide) rfl (lw_g_mk tw_578 rfl) rfl (Nat.le_of_ble_eq_true rfl) dX2_readNumber_1 (by rw [hR9]; decide) ?_
  refine x_aload_n C dX2_readNumber_4 rfl 0 rfl ?_
  refine x_get C (C1 := "HostelBeds$Input") (T := TX2) (N := 7) (ci := 4) inXg2 _ (c_In) rfl 4 (by decide) (lw_g_mk tw_45 rfl) rfl dX2_readNumber_5 ?_
  refine x_iconst C (v := 2) dX2_readNumber_8 (by decide) ?_
  have hJ2 : ∀ (r9 : Int32 × Mem), jX2_readNumber_32 q1 = some r9 → (∀ (pc9 : Nat) (lcs9 : List (Nat × Value)), decode cX2_readNumber pc9 = .ok (.ireturn, 1) → narrow .boolean (.int r9.1) = .int r9.1 → X p l e R s m args below meth c 3 cy D B 0 0 Q pc9 lcs9 [.int r9.1] r9.2 Y) → X p l e R s m args below meth c 3 cy D B 0 0 Q 32 [] [] q1 Y := by
    intro res9 h hret
    unfold jX2_readNumber_32 at h
    refine x_iconst C (v := 0) dX2_readNumber_32 (by decide) ?_
    cases h
    exact hret _ _ dX2_readNumber_33 (nar_Z (Or.inl rfl))
  refine x_icmp_ne C (tgt := 32) dX2_readNumber_9 (by decide) (fun hc3 => ?_) (fun hc3 => ?_)
  · rw [if_pos hc3] at h
    refine x_sub [] rfl ?_
    exact hJ2 _ h hret
  · rw [if_neg hc3] at h
    refine x_aload_n C dX2_readNumber_12 rfl 0 rfl ?_
    refine x_get C (C1 := "HostelBeds$Input") (T := TX2) (N := 7) (ci := 4) inXg2 _ (c_In) rfl 6 (by decide) (lw_g_mk tw_47 rfl) rfl dX2_readNumber_13 ?_
    refine x_iload_n C dX2_readNumber_16 rfl 1 rfl ?_
    refine x_icmp_lt C (tgt := 32) dX2_readNumber_17 (by decide) (fun hc4 => ?_) (fun hc4 => ?_)
    · rw [if_pos hc4] at h
      refine x_sub [] rfl ?_
      exact hJ2 _ h hret
    · rw [if_neg hc4] at h
      refine x_aload_n C dX2_readNumber_20 rfl 0 rfl ?_
      refine x_get C (C1 := "HostelBeds$Input") (T := TX2) (N := 7) (ci := 4) inXg2 _ (c_In) rfl 6 (by decide) (lw_g_mk tw_47 rfl) rfl dX2_readNumber_21 ?_
      refine x_iload_n C dX2_readNumber_24 rfl 2 rfl ?_
      refine x_icmp_gt C (tgt := 32) dX2_readNumber_25 (by decide) (fun hc5 => ?_) (fun hc5 => ?_)
      · rw [if_pos hc5] at h
        refine x_sub [] rfl ?_
        exact hJ2 _ h hret
      · rw [if_neg hc5] at h
        refine x_iconst C (v := 1) dX2_readNumber_28 (by decide) ?_
        refine x_goto C (tgt := 33) dX2_readNumber_29 (by decide) ?_
        cases h
        exact hret _ _ dX2_readNumber_33 (nar_Z (Or.inr rfl))
def jX2_readGroup_65 (q3 : Int32 × Mem) (j1 : Nat) (r1 : Nat) (q1 : Int32 × Mem) (q2 : Int32 × Mem) (t4 : Int32) : Option (Int32 × Mem) := ((fX2_readNumber t4 ((12 : Int32) - (rI q3.2 11 0 0)) q3.2).bind fun q5 => (if ¬ q5.1 = 0 then ((fX2_readNumber (0 : Int32) (99 : Int32) q5.2).bind fun q6 => (if ¬ q6.1 = 0 then ((fX2_readNumber (0 : Int32) (100 : Int32) q6.2).bind fun q7 => (if ¬ q7.1 = 0 then ((fX0_fill j1 r1 (rI q1.2 11 0 0) (rI q2.2 11 0 0) (rI q3.2 11 0 0) (rI q5.2 11 0 0) (rI q6.2 11 0 0) (rI q7.2 11 0 0) q7.2).bind fun q8 => (some ((1 : Int32), q8))) else (some ((0 : Int32), q7.2)))) else (some ((0 : Int32), q6.2)))) else (some ((0 : Int32), q5.2))))
def fX2_readGroup (j1 : Nat) (r1 : Nat) (σ : Mem) : Option (Int32 × Mem) := ((fX2_readNumber (0 : Int32) (29 : Int32) σ).bind fun q1 => (if ¬ q1.1 = 0 then ((fX2_readNumber (1 : Int32) ((30 : Int32) - (rI q1.2 11 0 0)) q1.2).bind fun q2 => (if ¬ q2.1 = 0 then ((fX2_readNumber (0 : Int32) (12 : Int32) q2.2).bind fun q3 => (if ¬ q3.1 = 0 then (if ¬ (rI q3.2 11 0 0) = 0 then (jX2_readGroup_65 q3 j1 r1 q1 q2 (0 : Int32)) else (jX2_readGroup_65 q3 j1 r1 q1 q2 (1 : Int32))) else (some ((0 : Int32), q3.2)))) else (some ((0 : Int32), q2.2)))) else (some ((0 : Int32), q1.2))))
set_option maxHeartbeats 4000000 in
set_option maxRecDepth 100000 in
theorem okX2_readGroup (l : Launch) (cy : Nat → ClassId) (D : va_G) (B : Nat) (ek : EK) (j1 : Nat) (r1 : Nat) (σ : Mem) (Y : va_W) (hj1 : j1 < 12) (hr1 : r1 < 17) (res : Int32 × Mem) (h : fX2_readGroup j1 r1 σ = some res) : CT l cy D B ek yX2_readGroup cX2_readGroup 7 (some .boolean) ({ frames := 3, cells := 0, slots := 0, locals := 62 } : Room) [.ref (B + oIn), .ref (B + oBk j1 r1)] σ Y (some (.int res.1)) res.2 Y := by
  refine met_X (own := "HostelBeds$Input") (by decide) rfl (Nat.le_of_ble_eq_true rfl) ?_
  intro p e s m args below meth c C hrT hlk
  have hret : ∀ (pc9 : Nat) (lcs9 : List (Nat × Value)), decode cX2_readGroup pc9 = .ok (.ireturn, 1) → narrow .boolean (.int res.1) = .int res.1 → X p l e ({ frames := 3, cells := 0, slots := 0, locals := 62 } : Room) s m args below meth c 7 cy D B 0 0 (MQ below (QR cy D B (some (.int res.1)) res.2 Y) args s 0 0 (aB B)) pc9 lcs9 [.int res.1] res.2 Y := fun _ _ hd hn => x_zret C hrT hlk hn hd
  generalize (MQ below (QR cy D B (some (.int res.1)) res.2 Y) args s 0 0 (aB B)) = Q at hret ⊢
  obtain ⟨R, hR9⟩ : ∃ R : Room, R = ({ frames := 3, cells := 0, slots := 0, locals := 62 } : Room) := ⟨_, rfl⟩
  rw [← hR9] at hret ⊢
  unfold fX2_readGroup at h
  show X p l e R s m args below meth c 7 cy D B 0 0 Q 0 [(0, .ref (B + oIn)), (1, .ref (B + oBk j1 r1))] [] σ Y
  refine x_aload_n C dX2_readGroup_0 rfl 0 rfl ?_
  refine x_iconst C (v := 0) dX2_readGroup_1 (by decide) ?_
  refine x_bipush C (v := 29) dX2_readGroup_2 (by decide) ?_
  obtain ⟨q1, hk1, h⟩ := Option.bind_eq_some_iff.mp h
  refine x_callV C (As := [.int (0 : Int32), .int (29 : Int32)]) (rest := []) (lw_g_mk tw_613 rfl) (lw_g_mk tw_614 rfl) (c_In) (C1 := "HostelBeds$Input") (T := TX2) (N := 7) (ci := 4) rfl (okX2_readNumber l cy D B ek (0 : Int32) (29 : Int32) σ Y _ hk1) rfl rfl (by rw [hR9]; decide) (lw_g_mk tw_615 rfl) (lw_g_mk tw_2 rfl) (by decide) rfl (lw_g_mk tw_612 rfl) rfl (Nat.le_of_ble_eq_true rfl) dX2_readGroup_4 (by rw [hR9]; decide) ?_
  refine x_if_ne C (tgt := 12) dX2_readGroup_7 (by decide) (fun hc2 => ?_) (fun hc2 => ?_)
  · rw [if_pos hc2] at h
    refine x_aload_n C dX2_readGroup_12 rfl 0 rfl ?_
    refine x_get C (C1 := "HostelBeds$Input") (T := TX2) (N := 7) (ci := 4) inXg2 _ (c_In) rfl 6 (by decide) (lw_g_mk tw_47 rfl) rfl dX2_readGroup_13 ?_
    refine x_istore_n C [(2, .int (rI q1.2 11 0 0)), (0, .ref (B + oIn)), (1, .ref (B + oBk j1 r1))] dX2_readGroup_16 rfl (by decide) rfl ?_
    refine x_aload_n C dX2_readGroup_17 rfl 1 rfl ?_
    refine x_iconst C (v := 1) dX2_readGroup_18 (by decide) ?_
    refine x_bipush C (v := 30) dX2_readGroup_19 (by decide) ?_
    refine x_iload_n C dX2_readGroup_21 rfl 0 rfl ?_
    refine x_isub C dX2_readGroup_22 ?_
    obtain ⟨q2, hk3, h⟩ := Option.bind_eq_some_iff.mp h
    refine x_callV C (As := [.int (1 : Int32), .int ((30 : Int32) - (rI q1.2 11 0 0))]) (rest := []) (lw_g_mk tw_613 rfl) (lw_g_mk tw_614 rfl) (c_In) (C1 := "HostelBeds$Input") (T := TX2) (N := 7) (ci := 4) rfl (okX2_readNumber l cy D B ek (1 : Int32) ((30 : Int32) - (rI q1.2 11 0 0)) q1.2 Y _ hk3) rfl rfl (by rw [hR9]; decide) (lw_g_mk tw_615 rfl) (lw_g_mk tw_2 rfl) (by decide) rfl (lw_g_mk tw_612 rfl) rfl (Nat.le_of_ble_eq_true rfl) dX2_readGroup_23 (by rw [hR9]; decide) ?_
    refine x_if_ne C (tgt := 31) dX2_readGroup_26 (by decide) (fun hc4 => ?_) (fun hc4 => ?_)
    · rw [if_pos hc4] at h
      refine x_aload_n C dX2_readGroup_31 rfl 1 rfl ?_
      refine x_get C (C1 := "HostelBeds$Input") (T := TX2) (N := 7) (ci := 4) inXg2 _ (c_In) rfl 6 (by decide) (lw_g_mk tw_47 rfl) rfl dX2_readGroup_32 ?_
      refine x_istore_n C [(3, .int (rI q2.2 11 0 0)), (2, .int (rI q1.2 11 0 0)), (0, .ref (B + oIn)), (1, .ref (B + oBk j1 r1))] dX2_readGroup_35 rfl (by decide) rfl ?_
      refine x_aload_n C dX2_readGroup_36 rfl 2 rfl ?_
      refine x_iconst C (v := 0) dX2_readGroup_37 (by decide) ?_
      refine x_bipush C (v := 12) dX2_readGroup_38 (by decide) ?_
      obtain ⟨q3, hk5, h⟩ := Option.bind_eq_some_iff.mp h
      refine x_callV C (As := [.int (0 : Int32), .int (12 : Int32)]) (rest := []) (lw_g_mk tw_613 rfl) (lw_g_mk tw_614 rfl) (c_In) (C1 := "HostelBeds$Input") (T := TX2) (N := 7) (ci := 4) rfl (okX2_readNumber l cy D B ek (0 : Int32) (12 : Int32) q2.2 Y _ hk5) rfl rfl (by rw [hR9]; decide) (lw_g_mk tw_615 rfl) (lw_g_mk tw_2 rfl) (by decide) rfl (lw_g_mk tw_612 rfl) rfl (Nat.le_of_ble_eq_true rfl) dX2_readGroup_40 (by rw [hR9]; decide) ?_
      refine x_if_ne C (tgt := 48) dX2_readGroup_43 (by decide) (fun hc6 => ?_) (fun hc6 => ?_)
      · rw [if_pos hc6] at h
        refine x_aload_n C dX2_readGroup_48 rfl 2 rfl ?_
        refine x_get C (C1 := "HostelBeds$Input") (T := TX2) (N := 7) (ci := 4) inXg2 _ (c_In) rfl 6 (by decide) (lw_g_mk tw_47 rfl) rfl dX2_readGroup_49 ?_
        refine x_istore C [(4, .int (rI q3.2 11 0 0)), (3, .int (rI q2.2 11 0 0)), (2, .int (rI q1.2 11 0 0)), (0, .ref (B + oIn)), (1, .ref (B + oBk j1 r1))] dX2_readGroup_52 (by decide) rfl ?_
        refine x_aload_n C dX2_readGroup_54 rfl 3 rfl ?_
        refine x_iload C dX2_readGroup_55 0 rfl ?_
        have hJ14 : ∀ (t4 : Int32) (r9 : Int32 × Mem), jX2_readGroup_65 q3 j1 r1 q1 q2 t4 = some r9 → (∀ (pc9 : Nat) (lcs9 : List (Nat × Value)), decode cX2_readGroup pc9 = .ok (.ireturn, 1) → narrow .boolean (.int r9.1) = .int r9.1 → X p l e R s m args below meth c 7 cy D B 0 0 Q pc9 lcs9 [.int r9.1] r9.2 Y) → X p l e R s m args below meth c 7 cy D B 0 0 Q 65 [(0, .ref (B + oIn)), (1, .ref (B + oBk j1 r1)), (2, .int (rI q1.2 11 0 0)), (3, .int (rI q2.2 11 0 0)), (4, .int (rI q3.2 11 0 0))] [.int t4, .ref (B + oIn)] q3.2 Y := by
          intro t4 res9 h hret
          unfold jX2_readGroup_65 at h
          refine x_bipush C (v := 12) dX2_readGroup_65 (by decide) ?_
          refine x_iload C dX2_readGroup_67 4 rfl ?_
          refine x_isub C dX2_readGroup_69 ?_
          obtain ⟨q5, hk7, h⟩ := Option.bind_eq_some_iff.mp h
          refine x_callV C (As := [.int t4, .int ((12 : Int32) - (rI q3.2 11 0 0))]) (rest := []) (lw_g_mk tw_613 rfl) (lw_g_mk tw_614 rfl) (c_In) (C1 := "HostelBeds$Input") (T := TX2) (N := 7) (ci := 4) rfl (okX2_readNumber l cy D B ek t4 ((12 : Int32) - (rI q3.2 11 0 0)) q3.2 Y _ hk7) rfl rfl (by rw [hR9]; decide) (lw_g_mk tw_615 rfl) (lw_g_mk tw_2 rfl) (by decide) rfl (lw_g_mk tw_612 rfl) rfl (Nat.le_of_ble_eq_true rfl) dX2_readGroup_70 (by rw [hR9]; decide) ?_
          refine x_if_ne C (tgt := 78) dX2_readGroup_73 (by decide) (fun hc8 => ?_) (fun hc8 => ?_)
          · rw [if_pos hc8] at h
            refine x_aload_n C dX2_readGroup_78 rfl 0 rfl ?_
            refine x_get C (C1 := "HostelBeds$Input") (T := TX2) (N := 7) (ci := 4) inXg2 _ (c_In) rfl 6 (by decide) (lw_g_mk tw_47 rfl) rfl dX2_readGroup_79 ?_
            refine x_istore C [(5, .int (rI q5.2 11 0 0)), (0, .ref (B + oIn)), (1, .ref (B + oBk j1 r1)), (2, .int (rI q1.2 11 0 0)), (3, .int (rI q2.2 11 0 0)), (4, .int (rI q3.2 11 0 0))] dX2_readGroup_82 (by decide) rfl ?_
            refine x_aload_n C dX2_readGroup_84 rfl 1 rfl ?_
            refine x_iconst C (v := 0) dX2_readGroup_85 (by decide) ?_
            refine x_bipush C (v := 99) dX2_readGroup_86 (by decide) ?_
            obtain ⟨q6, hk9, h⟩ := Option.bind_eq_some_iff.mp h
            refine x_callV C (As := [.int (0 : Int32), .int (99 : Int32)]) (rest := []) (lw_g_mk tw_613 rfl) (lw_g_mk tw_614 rfl) (c_In) (C1 := "HostelBeds$Input") (T := TX2) (N := 7) (ci := 4) rfl (okX2_readNumber l cy D B ek (0 : Int32) (99 : Int32) q5.2 Y _ hk9) rfl rfl (by rw [hR9]; decide) (lw_g_mk tw_615 rfl) (lw_g_mk tw_2 rfl) (by decide) rfl (lw_g_mk tw_612 rfl) rfl (Nat.le_of_ble_eq_true rfl) dX2_readGroup_88 (by rw [hR9]; decide) ?_
            refine x_if_ne C (tgt := 96) dX2_readGroup_91 (by decide) (fun hc10 => ?_) (fun hc10 => ?_)
            · rw [if_pos hc10] at h
              refine x_aload_n C dX2_readGroup_96 rfl 1 rfl ?_
              refine x_get C (C1 := "HostelBeds$Input") (T := TX2) (N := 7) (ci := 4) inXg2 _ (c_In) rfl 6 (by decide) (lw_g_mk tw_47 rfl) rfl dX2_readGroup_97 ?_
              refine x_istore C [(6, .int (rI q6.2 11 0 0)), (5, .int (rI q5.2 11 0 0)), (0, .ref (B + oIn)), (1, .ref (B + oBk j1 r1)), (2, .int (rI q1.2 11 0 0)), (3, .int (rI q2.2 11 0 0)), (4, .int (rI q3.2 11 0 0))] dX2_readGroup_100 (by decide) rfl ?_
              refine x_aload_n C dX2_readGroup_102 rfl 2 rfl ?_
              refine x_iconst C (v := 0) dX2_readGroup_103 (by decide) ?_
              refine x_bipush C (v := 100) dX2_readGroup_104 (by decide) ?_
              obtain ⟨q7, hk11, h⟩ := Option.bind_eq_some_iff.mp h
              refine x_callV C (As := [.int (0 : Int32), .int (100 : Int32)]) (rest := []) (lw_g_mk tw_613 rfl) (lw_g_mk tw_614 rfl) (c_In) (C1 := "HostelBeds$Input") (T := TX2) (N := 7) (ci := 4) rfl (okX2_readNumber l cy D B ek (0 : Int32) (100 : Int32) q6.2 Y _ hk11) rfl rfl (by rw [hR9]; decide) (lw_g_mk tw_615 rfl) (lw_g_mk tw_2 rfl) (by decide) rfl (lw_g_mk tw_612 rfl) rfl (Nat.le_of_ble_eq_true rfl) dX2_readGroup_106 (by rw [hR9]; decide) ?_
              refine x_if_ne C (tgt := 114) dX2_readGroup_109 (by decide) (fun hc12 => ?_) (fun hc12 => ?_)
              · rw [if_pos hc12] at h
                refine x_aload_n C dX2_readGroup_114 rfl 3 rfl ?_
                refine x_iload_n C dX2_readGroup_115 rfl 4 rfl ?_
                refine x_iload_n C dX2_readGroup_116 rfl 5 rfl ?_
                refine x_iload C dX2_readGroup_117 6 rfl ?_
                refine x_iload C dX2_readGroup_119 1 rfl ?_
                refine x_iload C dX2_readGroup_121 0 rfl ?_
                refine x_aload_n C dX2_readGroup_123 rfl 2 rfl ?_
                refine x_get C (C1 := "HostelBeds$Input") (T := TX2) (N := 7) (ci := 4) inXg2 _ (c_In) rfl 6 (by decide) (lw_g_mk tw_47 rfl) rfl dX2_readGroup_124 ?_
                obtain ⟨q8, hk13, h⟩ := Option.bind_eq_some_iff.mp h
                refine x_callV C (As := [.int (rI q1.2 11 0 0), .int (rI q2.2 11 0 0), .int (rI q3.2 11 0 0), .int (rI q5.2 11 0 0), .int (rI q6.2 11 0 0), .int (rI q7.2 11 0 0)]) (rest := []) (lw_g_mk tw_634 rfl) (lw_g_mk tw_635 rfl) (c_Bk hj1 hr1) (C1 := "HostelBeds$Booking") (T := TX0) (N := 11) (ci := 2) rfl (okX0_fill l cy D B ek j1 r1 (rI q1.2 11 0 0) (rI q2.2 11 0 0) (rI q3.2 11 0 0) (rI q5.2 11 0 0) (rI q6.2 11 0 0) (rI q7.2 11 0 0) q7.2 Y hj1 hr1 _ hk13) rfl rfl (by rw [hR9]; decide) (lw_g_mk tw_636 rfl) (lw_g_mk tw_5 rfl) (by decide) rfl (lw_g_mk tw_633 rfl) rfl (Nat.le_of_ble_eq_true rfl) dX2_readGroup_127 (by rw [hR9]; decide) ?_
                refine x_iconst C (v := 1) dX2_readGroup_130 (by decide) ?_
                cases h
                exact hret _ _ dX2_readGroup_131 (nar_Z (Or.inr rfl))
              · rw [if_neg hc12] at h
                refine x_iconst C (v := 0) dX2_readGroup_112 (by decide) ?_
                cases h
                exact hret _ _ dX2_readGroup_113 (nar_Z (Or.inl rfl))
            · rw [if_neg hc10] at h
              refine x_iconst C (v := 0) dX2_readGroup_94 (by decide) ?_
              cases h
              exact hret _ _ dX2_readGroup_95 (nar_Z (Or.inl rfl))
          · rw [if_neg hc8] at h
            refine x_iconst C (v := 0) dX2_readGroup_76 (by decide) ?_
            cases h
            exact hret _ _ dX2_readGroup_77 (nar_Z (Or.inl rfl))
        refine x_if_ne C (tgt := 64) dX2_readGroup_57 (by decide) (fun hc15 => ?_) (fun hc15 => ?_)
        · rw [if_pos hc15] at h
          refine x_iconst C (v := 0) dX2_readGroup_64 (by decide) ?_
          refine x_sub [3, 4, 2, 1, 0] rfl ?_
          exact hJ14 (0 : Int32) _ h hret
        · rw [if_neg hc15] at h
          refine x_iconst C (v := 1) dX2_readGroup_60 (by decide) ?_
          refine x_goto C (tgt := 65) dX2_readGroup_61 (by decide) ?_
          refine x_sub [3, 4, 2, 1, 0] rfl ?_
          exact hJ14 (1 : Int32) _ h hret
      · rw [if_neg hc6] at h
        refine x_iconst C (v := 0) dX2_readGroup_46 (by decide) ?_
        cases h
        exact hret _ _ dX2_readGroup_47 (nar_Z (Or.inl rfl))
    · rw [if_neg hc4] at h
      refine x_iconst C (v := 0) dX2_readGroup_29 (by decide) ?_
      cases h
      exact hret _ _ dX2_readGroup_30 (nar_Z (Or.inl rfl))
  · rw [if_neg hc2] at h
    refine x_iconst C (v := 0) dX2_readGroup_10 (by decide) ?_
    cases h
    exact hret _ _ dX2_readGroup_11 (nar_Z (Or.inl rfl))
def jX2_readBook_89 (j1 : Nat) (σ6 : Mem) : Option (Int32 × Mem) := (if (rI σ6 10 0 0) = (3 : Int32) then ((fX1_tellNext j1 σ6).bind fun q7 => (some ((1 : Int32), q7))) else (some ((0 : Int32), σ6)))
def fX2_readBook (j1 : Nat) (σ : Mem) : Option (Int32 × Mem) := (if (rI σ 22 j1 0) < (16 : Int32) then (gd (inb (rI σ 22 j1 0) 17) ((fX2_advance σ).bind fun q1 => (if ¬ (rI q1 10 0 0) = (1 : Int32) then (some ((0 : Int32), q1)) else ((fX1_bookingNamed j1 (rJ q1 0 0 0) q1).bind fun q2 => (if q2 = (-1 : Int32) then ((fX2_readGroup j1 ((rI σ 22 j1 0).toNatClampNeg) q1).bind fun q3 => (if ¬ q3.1 = 0 then ((fX2_advance (wJ q3.2 2 j1 ((rI σ 22 j1 0).toNatClampNeg) (rJ q1 0 0 0))).bind fun q4 => ((fX2_isWord 5 q4).bind fun q5 => (if q5 = 0 then (jX2_readBook_89 j1 q4) else ((fX2_advance (wI q4 47 j1 ((rI σ 22 j1 0).toNatClampNeg) (1 : Int32))).bind fun q8 => (jX2_readBook_89 j1 q8))))) else (some ((0 : Int32), q3.2)))) else (some ((0 : Int32), q1))))))) else (some ((0 : Int32), σ)))
set_option maxHeartbeats 4000000 in
set_option maxRecDepth 100000 in
theorem okX2_readBook (l : Launch) (cy : Nat → ClassId) (D : va_G) (B : Nat) (ek : EK) (j1 : Nat) (σ : Mem) (Y : va_W) (hj1 : j1 < 12) (res : Int32 × Mem) (h : fX2_readBook j1 σ = some res) : CT l cy D B ek yX2_readBook cX2_readBook 5 (some .boolean) ({ frames := 8, cells := 0, slots := 0, locals := 163 } : Room) [.ref (B + oIn), .ref (B + oHo j1)] σ Y (some (.int res.1)) res.2 Y := by
  refine met_X (own := "HostelBeds$Input") (by decide) rfl (Nat.le_of_ble_eq_true rfl) ?_
  intro p e s m args below meth c C hrT hlk
  have hret : ∀ (pc9 : Nat) (lcs9 : List (Nat × Value)), decode cX2_readBook pc9 = .ok (.ireturn, 1) → narrow .boolean (.int res.1) = .int res.1 → X p l e ({ frames := 8, cells := 0, slots := 0, locals := 163 } : Room) s m args below meth c 5 cy D B 0 0 (MQ below (QR cy D B (some (.int res.1)) res.2 Y) args s 0 0 (aB B)) pc9 lcs9 [.int res.1] res.2 Y := fun _ _ hd hn => x_zret C hrT hlk hn hd
  generalize (MQ below (QR cy D B (some (.int res.1)) res.2 Y) args s 0 0 (aB B)) = Q at hret ⊢
  obtain ⟨R, hR9⟩ : ∃ R : Room, R = ({ frames := 8, cells := 0, slots := 0, locals := 163 } : Room) := ⟨_, rfl⟩
  rw [← hR9] at hret ⊢
  unfold fX2_readBook at h
  show X p l e R s m args below meth c 5 cy D B 0 0 Q 0 [(0, .ref (B + oIn)), (1, .ref (B + oHo j1))] [] σ Y
  refine x_aload_n C dX2_readBook_0 rfl 1 rfl ?_
  refine x_get C (C1 := "HostelBeds$Hostel") (T := TX1) (N := 12) (ci := 3) inXg1 _ (c_Ho hj1) rfl 4 (by decide) (lw_g_mk tw_200 rfl) rfl dX2_readBook_1 ?_
  refine x_bipush C (v := 16) dX2_readBook_4 (by decide) ?_
  refine x_icmp_lt C (tgt := 11) dX2_readBook_6 (by decide) (fun hc1 => ?_) (fun hc1 => ?_)
  · rw [if_pos hc1] at h
    refine x_aload_n C dX2_readBook_11 rfl 1 rfl ?_
    refine x_get C (C1 := "HostelBeds$Hostel") (T := TX1) (N := 12) (ci := 3) inXg1 _ (c_Ho hj1) rfl 3 (by decide) (lw_g_mk tw_196 rfl) rfl dX2_readBook_12 ?_
    refine x_aload_n C dX2_readBook_15 rfl 1 rfl ?_
    refine x_get C (C1 := "HostelBeds$Hostel") (T := TX1) (N := 12) (ci := 3) inXg1 _ (c_Ho hj1) rfl 4 (by decide) (lw_g_mk tw_200 rfl) rfl dX2_readBook_16 ?_
    obtain ⟨hg2, h⟩ := gd_some h
    refine x_aldq C _ 6 (C1 := "HostelBeds$Booking") (c_Bks hj1) rfl hg2 rfl dX2_readBook_19 ?_
    refine x_astore_n C [(2, .ref (B + oBk j1 ((rI σ 22 j1 0).toNatClampNeg))), (0, .ref (B + oIn)), (1, .ref (B + oHo j1))] dX2_readBook_20 rfl (by decide) rfl ?_
    refine x_aload_n C dX2_readBook_21 rfl 1 rfl ?_
    obtain ⟨q1, hk3, h⟩ := Option.bind_eq_some_iff.mp h
    refine x_callV C (As := []) (rest := []) (lw_g_mk tw_579 rfl) (lw_g_mk tw_580 rfl) (c_In) (C1 := "HostelBeds$Input") (T := TX2) (N := 7) (ci := 4) rfl (okX2_advance l cy D B ek σ Y _ hk3) rfl rfl (by rw [hR9]; decide) (lw_g_mk tw_581 rfl) (lw_g_mk tw_2 rfl) (by decide) rfl (lw_g_mk tw_578 rfl) rfl (Nat.le_of_ble_eq_true rfl) dX2_readBook_22 (by rw [hR9]; decide) ?_
    refine x_aload_n C dX2_readBook_25 rfl 1 rfl ?_
    refine x_get C (C1 := "HostelBeds$Input") (T := TX2) (N := 7) (ci := 4) inXg2 _ (c_In) rfl 4 (by decide) (lw_g_mk tw_45 rfl) rfl dX2_readBook_26 ?_
    refine x_iconst C (v := 1) dX2_readBook_29 (by decide) ?_
    refine x_icmp_ne C (tgt := 45) dX2_readBook_30 (by decide) (fun hc4 => ?_) (fun hc4 => ?_)
    · rw [if_pos hc4] at h
      refine x_iconst C (v := 0) dX2_readBook_45 (by decide) ?_
      cases h
      exact hret _ _ dX2_readBook_46 (nar_Z (Or.inl rfl))
    · rw [if_neg hc4] at h
      refine x_aload_n C dX2_readBook_33 rfl 2 rfl ?_
      refine x_aload_n C dX2_readBook_34 rfl 1 rfl ?_
      refine x_get C (C1 := "HostelBeds$Input") (T := TX2) (N := 7) (ci := 4) inXg2 _ (c_In) rfl 5 (by decide) (lw_g_mk tw_46 rfl) rfl dX2_readBook_35 ?_
      obtain ⟨q2, hk5, h⟩ := Option.bind_eq_some_iff.mp h
      refine x_callV C (As := [.long (rJ q1 0 0 0)]) (rest := []) (lw_g_mk tw_626 rfl) (lw_g_mk tw_627 rfl) (c_Ho hj1) (C1 := "HostelBeds$Hostel") (T := TX1) (N := 12) (ci := 3) rfl (okX1_bookingNamed l cy D B ek j1 (rJ q1 0 0 0) q1 Y hj1 _ hk5) rfl rfl (by rw [hR9]; decide) (lw_g_mk tw_628 rfl) (lw_g_mk tw_3 rfl) (by decide) rfl (lw_g_mk tw_625 rfl) rfl (Nat.le_of_ble_eq_true rfl) dX2_readBook_38 (by rw [hR9]; decide) ?_
      refine x_iconst C (v := -1) dX2_readBook_41 (by decide) ?_
      refine x_icmp_eq C (tgt := 47) dX2_readBook_42 (by decide) (fun hc6 => ?_) (fun hc6 => ?_)
      · rw [if_pos hc6] at h
        refine x_aload_n C dX2_readBook_47 rfl 1 rfl ?_
        refine x_get C (C1 := "HostelBeds$Input") (T := TX2) (N := 7) (ci := 4) inXg2 _ (c_In) rfl 5 (by decide) (lw_g_mk tw_46 rfl) rfl dX2_readBook_48 ?_
        refine x_lstore_n C [(3, .long (rJ q1 0 0 0)), (2, .ref (B + oBk j1 ((rI σ 22 j1 0).toNatClampNeg))), (0, .ref (B + oIn)), (1, .ref (B + oHo j1))] dX2_readBook_51 rfl (by decide) rfl ?_
        refine x_aload_n C dX2_readBook_52 rfl 2 rfl ?_
        refine x_aload_n C dX2_readBook_53 rfl 1 rfl ?_
        obtain ⟨q3, hk7, h⟩ := Option.bind_eq_some_iff.mp h
        refine x_callV C (As := [.ref (B + oBk j1 ((rI σ 22 j1 0).toNatClampNeg))]) (rest := []) (lw_g_mk tw_630 rfl) (lw_g_mk tw_631 rfl) (c_In) (C1 := "HostelBeds$Input") (T := TX2) (N := 7) (ci := 4) rfl (okX2_readGroup l cy D B ek j1 ((rI σ 22 j1 0).toNatClampNeg) q1 Y hj1 (inb_lt hg2) _ hk7) rfl rfl (by rw [hR9]; decide) (lw_g_mk tw_632 rfl) (lw_g_mk tw_2 rfl) (by decide) rfl (lw_g_mk tw_629 rfl) rfl (Nat.le_of_ble_eq_true rfl) dX2_readBook_54 (by rw [hR9]; decide) ?_
        refine x_if_ne C (tgt := 62) dX2_readBook_57 (by decide) (fun hc8 => ?_) (fun hc8 => ?_)
        · rw [if_pos hc8] at h
          refine x_aload_n C dX2_readBook_62 rfl 1 rfl ?_
          refine x_lload_n C dX2_readBook_63 rfl 0 rfl ?_
          refine x_put C (C1 := "HostelBeds$Booking") (T := TX0) (N := 11) (ci := 2) inXg0 tyX0 tyX0_ok nmX0 _ (c_Bk hj1 (inb_lt hg2)) rfl 0 (by decide) (lw_g_mk tw_113 rfl) rfl rfl rfl rfl (Nat.le_of_ble_eq_true rfl) dX2_readBook_64 (s_Bk_name hj1 (inb_lt hg2)) ?_
          refine x_aload_n C dX2_readBook_67 rfl 2 rfl ?_
          obtain ⟨q4, hk9, h⟩ := Option.bind_eq_some_iff.mp h
          refine x_callV C (As := []) (rest := []) (lw_g_mk tw_579 rfl) (lw_g_mk tw_580 rfl) (c_In) (C1 := "HostelBeds$Input") (T := TX2) (N := 7) (ci := 4) rfl (okX2_advance l cy D B ek (wJ q3.2 2 j1 ((rI σ 22 j1 0).toNatClampNeg) (rJ q1 0 0 0)) Y _ hk9) rfl rfl (by rw [hR9]; decide) (lw_g_mk tw_581 rfl) (lw_g_mk tw_2 rfl) (by decide) rfl (lw_g_mk tw_578 rfl) rfl (Nat.le_of_ble_eq_true rfl) dX2_readBook_68 (by rw [hR9]; decide) ?_
          refine x_aload_n C dX2_readBook_71 rfl 2 rfl ?_
          refine x_ldcS C (i := 5) (tx := "together") rfl dX2_readBook_72 ?_
          obtain ⟨q5, hk10, h⟩ := Option.bind_eq_some_iff.mp h
          refine x_callV C (As := [.ref (ek.1 5)]) (rest := []) (lw_g_mk tw_592 rfl) (lw_g_mk tw_593 rfl) (c_In) (C1 := "HostelBeds$Input") (T := TX2) (N := 7) (ci := 4) rfl (okX2_isWord l cy D B ek 5 q4 Y (by decide) _ hk10) rfl rfl (by rw [hR9]; decide) (lw_g_mk tw_594 rfl) (lw_g_mk tw_2 rfl) (by decide) rfl (lw_g_mk tw_591 rfl) rfl (Nat.le_of_ble_eq_true rfl) dX2_readBook_74 (by rw [hR9]; decide) ?_
          have hJ13 : ∀ (σ6 : Mem) (r9 : Int32 × Mem), jX2_readBook_89 j1 σ6 = some r9 → (∀ (pc9 : Nat) (lcs9 : List (Nat × Value)), decode cX2_readBook pc9 = .ok (.ireturn, 1) → narrow .boolean (.int r9.1) = .int r9.1 → X p l e R s m args below meth c 5 cy D B 0 0 Q pc9 lcs9 [.int r9.1] r9.2 Y) → X p l e R s m args below meth c 5 cy D B 0 0 Q 89 [(0, .ref (B + oIn)), (1, .ref (B + oHo j1))] [] σ6 Y := by
            intro σ6 res9 h hret
            unfold jX2_readBook_89 at h
            refine x_aload_n C dX2_readBook_89 rfl 0 rfl ?_
            refine x_get C (C1 := "HostelBeds$Input") (T := TX2) (N := 7) (ci := 4) inXg2 _ (c_In) rfl 4 (by decide) (lw_g_mk tw_45 rfl) rfl dX2_readBook_90 ?_
            refine x_iconst C (v := 3) dX2_readBook_93 (by decide) ?_
            refine x_icmp_eq C (tgt := 99) dX2_readBook_94 (by decide) (fun hc11 => ?_) (fun hc11 => ?_)
            · rw [if_pos hc11] at h
              refine x_aload_n C dX2_readBook_99 rfl 1 rfl ?_
              obtain ⟨q7, hk12, h⟩ := Option.bind_eq_some_iff.mp h
              refine x_callV C (As := []) (rest := []) (lw_g_mk tw_639 rfl) (lw_g_mk tw_640 rfl) (c_Ho hj1) (C1 := "HostelBeds$Hostel") (T := TX1) (N := 12) (ci := 3) rfl (okX1_tellNext l cy D B ek j1 σ6 Y hj1 _ hk12) rfl rfl (by rw [hR9]; decide) (lw_g_mk tw_641 rfl) (lw_g_mk tw_3 rfl) (by decide) rfl (lw_g_mk tw_638 rfl) rfl (Nat.le_of_ble_eq_true rfl) dX2_readBook_100 (by rw [hR9]; decide) ?_
              refine x_iconst C (v := 1) dX2_readBook_103 (by decide) ?_
              cases h
              exact hret _ _ dX2_readBook_104 (nar_Z (Or.inr rfl))
            · rw [if_neg hc11] at h
              refine x_iconst C (v := 0) dX2_readBook_97 (by decide) ?_
              cases h
              exact hret _ _ dX2_readBook_98 (nar_Z (Or.inl rfl))
          refine x_if_eq C (tgt := 89) dX2_readBook_77 (by decide) (fun hc14 => ?_) (fun hc14 => ?_)
          · rw [if_pos hc14] at h
            refine x_sub [2, 3] rfl ?_
            exact hJ13 q4 _ h hret
          · rw [if_neg hc14] at h
            refine x_aload_n C dX2_readBook_80 rfl 1 rfl ?_
            refine x_iconst C (v := 1) dX2_readBook_81 (by decide) ?_
            refine x_put C (C1 := "HostelBeds$Booking") (T := TX0) (N := 11) (ci := 2) inXg0 tyX0 tyX0_ok nmX0 _ (c_Bk hj1 (inb_lt hg2)) rfl 8 (by decide) (lw_g_mk tw_142 rfl) rfl rfl (nar_Z (by decide)) (fit_Z (by decide)) (Nat.le_of_ble_eq_true rfl) dX2_readBook_82 (s_Bk_together hj1 (inb_lt hg2)) ?_
            refine x_aload_n C dX2_readBook_85 rfl 2 rfl ?_
            obtain ⟨q8, hk15, h⟩ := Option.bind_eq_some_iff.mp h
            refine x_callV C (As := []) (rest := []) (lw_g_mk tw_579 rfl) (lw_g_mk tw_580 rfl) (c_In) (C1 := "HostelBeds$Input") (T := TX2) (N := 7) (ci := 4) rfl (okX2_advance l cy D B ek (wI q4 47 j1 ((rI σ 22 j1 0).toNatClampNeg) (1 : Int32)) Y _ hk15) rfl rfl (by rw [hR9]; decide) (lw_g_mk tw_581 rfl) (lw_g_mk tw_2 rfl) (by decide) rfl (lw_g_mk tw_578 rfl) rfl (Nat.le_of_ble_eq_true rfl) dX2_readBook_86 (by rw [hR9]; decide) ?_
            refine x_sub [2, 3] rfl ?_
            exact hJ13 q8 _ h hret
        · rw [if_neg hc8] at h
          refine x_iconst C (v := 0) dX2_readBook_60 (by decide) ?_
          cases h
          exact hret _ _ dX2_readBook_61 (nar_Z (Or.inl rfl))
      · rw [if_neg hc6] at h
        refine x_iconst C (v := 0) dX2_readBook_45 (by decide) ?_
        cases h
        exact hret _ _ dX2_readBook_46 (nar_Z (Or.inl rfl))
  · rw [if_neg hc1] at h
    refine x_iconst C (v := 0) dX2_readBook_9 (by decide) ?_
    cases h
    exact hret _ _ dX2_readBook_10 (nar_Z (Or.inl rfl))
def fX2_readCancel (j1 : Nat) (σ : Mem) : Option (Int32 × Mem) := ((fX2_readBooked j1 σ).bind fun q1 => (if q1.1 = (-1 : Int32) then (some ((0 : Int32), q1.2)) else ((fX2_readEnd q1.2).bind fun q2 => (if ¬ q2.1 = 0 then ((fX1_drop j1 q1.1 q2.2).bind fun q3 => ((fX1_acceptWaiting j1 q3).bind fun q4 => (some ((1 : Int32), q4.2)))) else (some ((0 : Int32), q2.2))))))
set_option maxHeartbeats 4000000 in
set_option maxRecDepth 100000 in
theorem okX2_readCancel (l : Launch) (cy : Nat → ClassId) (D : va_G) (B : Nat) (ek : EK) (j1 : Nat) (σ : Mem) (Y : va_W) (hj1 : j1 < 12) (res : Int32 × Mem) (h : fX2_readCancel j1 σ = some res) : CT l cy D B ek yX2_readCancel cX2_readCancel 3 (some .boolean) ({ frames := 4, cells := 0, slots := 0, locals := 89 } : Room) [.ref (B + oIn), .ref (B + oHo j1)] σ Y (some (.int res.1)) res.2 Y := by
  refine met_X (own := "HostelBeds$Input") (by decide) rfl (Nat.le_of_ble_eq_true rfl) ?_
  intro p e s m args below meth c C hrT hlk
  have hret : ∀ (pc9 : Nat) (lcs9 : List (Nat × Value)), decode cX2_readCancel pc9 = .ok (.ireturn, 1) → narrow .boolean (.int res.1) = .int res.1 → X p l e ({ frames := 4, cells := 0, slots := 0, locals := 89 } : Room) s m args below meth c 3 cy D B 0 0 (MQ below (QR cy D B (some (.int res.1)) res.2 Y) args s 0 0 (aB B)) pc9 lcs9 [.int res.1] res.2 Y := fun _ _ hd hn => x_zret C hrT hlk hn hd
  generalize (MQ below (QR cy D B (some (.int res.1)) res.2 Y) args s 0 0 (aB B)) = Q at hret ⊢
  obtain ⟨R, hR9⟩ : ∃ R : Room, R = ({ frames := 4, cells := 0, slots := 0, locals := 89 } : Room) := ⟨_, rfl⟩
  rw [← hR9] at hret ⊢
  unfold fX2_readCancel at h
  show X p l e R s m args below meth c 3 cy D B 0 0 Q 0 [(0, .ref (B + oIn)), (1, .ref (B + oHo j1))] [] σ Y
  refine x_aload_n C dX2_readCancel_0 rfl 0 rfl ?_
  refine x_aload_n C dX2_readCancel_1 rfl 1 rfl ?_
  obtain ⟨q1, hk1, h⟩ := Option.bind_eq_some_iff.mp h
  refine x_callV C (As := [.ref (B + oHo j1)]) (rest := []) (lw_g_mk tw_671 rfl) (lw_g_mk tw_672 rfl) (c_In) (C1 := "HostelBeds$Input") (T := TX2) (N := 7) (ci := 4) rfl (okX2_readBooked l cy D B ek j1 σ Y hj1 _ hk1) rfl rfl (by rw [hR9]; decide) (lw_g_mk tw_673 rfl) (lw_g_mk tw_2 rfl) (by decide) rfl (lw_g_mk tw_670 rfl) rfl (Nat.le_of_ble_eq_true rfl) dX2_readCancel_2 (by rw [hR9]; decide) ?_
  refine x_istore_n C [(2, .int q1.1), (0, .ref (B + oIn)), (1, .ref (B + oHo j1))] dX2_readCancel_5 rfl (by decide) rfl ?_
  refine x_iload_n C dX2_readCancel_6 rfl 0 rfl ?_
  refine x_iconst C (v := -1) dX2_readCancel_7 (by decide) ?_
  refine x_icmp_eq C (tgt := 18) dX2_readCancel_8 (by decide) (fun hc2 => ?_) (fun hc2 => ?_)
  · rw [if_pos hc2] at h
    refine x_iconst C (v := 0) dX2_readCancel_18 (by decide) ?_
    cases h
    exact hret _ _ dX2_readCancel_19 (nar_Z (Or.inl rfl))
  · rw [if_neg hc2] at h
    refine x_aload_n C dX2_readCancel_11 rfl 1 rfl ?_
    obtain ⟨q2, hk3, h⟩ := Option.bind_eq_some_iff.mp h
    refine x_callV C (As := []) (rest := []) (lw_g_mk tw_617 rfl) (lw_g_mk tw_618 rfl) (c_In) (C1 := "HostelBeds$Input") (T := TX2) (N := 7) (ci := 4) rfl (okX2_readEnd l cy D B ek q1.2 Y _ hk3) rfl rfl (by rw [hR9]; decide) (lw_g_mk tw_619 rfl) (lw_g_mk tw_2 rfl) (by decide) rfl (lw_g_mk tw_616 rfl) rfl (Nat.le_of_ble_eq_true rfl) dX2_readCancel_12 (by rw [hR9]; decide) ?_
    refine x_if_ne C (tgt := 20) dX2_readCancel_15 (by decide) (fun hc4 => ?_) (fun hc4 => ?_)
    · rw [if_pos hc4] at h
      refine x_aload_n C dX2_readCancel_20 rfl 2 rfl ?_
      refine x_iload_n C dX2_readCancel_21 rfl 0 rfl ?_
      obtain ⟨q3, hk5, h⟩ := Option.bind_eq_some_iff.mp h
      refine x_callV C (As := [.int q1.1]) (rest := []) (lw_g_mk tw_675 rfl) (lw_g_mk tw_676 rfl) (c_Ho hj1) (C1 := "HostelBeds$Hostel") (T := TX1) (N := 12) (ci := 3) rfl (okX1_drop l cy D B ek j1 q1.1 q2.2 Y hj1 _ hk5) rfl rfl (by rw [hR9]; decide) (lw_g_mk tw_677 rfl) (lw_g_mk tw_3 rfl) (by decide) rfl (lw_g_mk tw_674 rfl) rfl (Nat.le_of_ble_eq_true rfl) dX2_readCancel_22 (by rw [hR9]; decide) ?_
      refine x_aload_n C dX2_readCancel_25 rfl 2 rfl ?_
      obtain ⟨q4, hk6, h⟩ := Option.bind_eq_some_iff.mp h
      refine x_callV C (As := []) (rest := []) (lw_g_mk tw_679 rfl) (lw_g_mk tw_680 rfl) (c_Ho hj1) (C1 := "HostelBeds$Hostel") (T := TX1) (N := 12) (ci := 3) rfl (okX1_acceptWaiting l cy D B ek j1 q3 Y hj1 _ hk6) rfl rfl (by rw [hR9]; decide) (lw_g_mk tw_681 rfl) (lw_g_mk tw_3 rfl) (by decide) rfl (lw_g_mk tw_678 rfl) rfl (Nat.le_of_ble_eq_true rfl) dX2_readCancel_26 (by rw [hR9]; decide) ?_
      refine x_pop C dX2_readCancel_29 rfl ?_
      refine x_iconst C (v := 1) dX2_readCancel_30 (by decide) ?_
      cases h
      exact hret _ _ dX2_readCancel_31 (nar_Z (Or.inr rfl))
    · rw [if_neg hc4] at h
      refine x_iconst C (v := 0) dX2_readCancel_18 (by decide) ?_
      cases h
      exact hret _ _ dX2_readCancel_19 (nar_Z (Or.inl rfl))
def fX2_readOffer (j1 : Nat) (σ : Mem) : Option (Int32 × Mem) := ((fX2_readNumber (2 : Int32) (30 : Int32) σ).bind fun q1 => (if ¬ q1.1 = 0 then ((fX2_readNumber (0 : Int32) (50 : Int32) (wI q1.2 26 j1 0 (rI q1.2 11 0 0))).bind fun q2 => (if ¬ q2.1 = 0 then ((fX2_readEnd (wI q2.2 27 j1 0 (rI q2.2 11 0 0))).bind fun q3 => (gd (q3.1 = 0 ∨ q3.1 = 1) (some (q3.1, q3.2)))) else (some ((0 : Int32), q2.2)))) else (some ((0 : Int32), q1.2))))
set_option maxHeartbeats 4000000 in
set_option maxRecDepth 100000 in
theorem okX2_readOffer (l : Launch) (cy : Nat → ClassId) (D : va_G) (B : Nat) (ek : EK) (j1 : Nat) (σ : Mem) (Y : va_W) (hj1 : j1 < 12) (res : Int32 × Mem) (h : fX2_readOffer j1 σ = some res) : CT l cy D B ek yX2_readOffer cX2_readOffer 2 (some .boolean) ({ frames := 3, cells := 0, slots := 0, locals := 62 } : Room) [.ref (B + oIn), .ref (B + oHo j1)] σ Y (some (.int res.1)) res.2 Y := by
  refine met_X (own := "HostelBeds$Input") (by decide) rfl (Nat.le_of_ble_eq_true rfl) ?_
  intro p e s m args below meth c C hrT hlk
  have hret : ∀ (pc9 : Nat) (lcs9 : List (Nat × Value)), decode cX2_readOffer pc9 = .ok (.ireturn, 1) → narrow .boolean (.int res.1) = .int res.1 → X p l e ({ frames := 3, cells := 0, slots := 0, locals := 62 } : Room) s m args below meth c 2 cy D B 0 0 (MQ below (QR cy D B (some (.int res.1)) res.2 Y) args s 0 0 (aB B)) pc9 lcs9 [.int res.1] res.2 Y := fun _ _ hd hn => x_zret C hrT hlk hn hd
  generalize (MQ below (QR cy D B (some (.int res.1)) res.2 Y) args s 0 0 (aB B)) = Q at hret ⊢
  obtain ⟨R, hR9⟩ : ∃ R : Room, R = ({ frames := 3, cells := 0, slots := 0, locals := 62 } : Room) := ⟨_, rfl⟩
  rw [← hR9] at hret ⊢
  unfold fX2_readOffer at h
  show X p l e R s m args below meth c 2 cy D B 0 0 Q 0 [(0, .ref (B + oIn)), (1, .ref (B + oHo j1))] [] σ Y
  refine x_aload_n C dX2_readOffer_0 rfl 0 rfl ?_
  refine x_iconst C (v := 2) dX2_readOffer_1 (by decide) ?_
  refine x_bipush C (v := 30) dX2_readOffer_2 (by decide) ?_
  obtain ⟨q1, hk1, h⟩ := Option.bind_eq_some_iff.mp h
  refine x_callV C (As := [.int (2 : Int32), .int (30 : Int32)]) (rest := []) (lw_g_mk tw_613 rfl) (lw_g_mk tw_614 rfl) (c_In) (C1 := "HostelBeds$Input") (T := TX2) (N := 7) (ci := 4) rfl (okX2_readNumber l cy D B ek (2 : Int32) (30 : Int32) σ Y _ hk1) rfl rfl (by rw [hR9]; decide) (lw_g_mk tw_615 rfl) (lw_g_mk tw_2 rfl) (by decide) rfl (lw_g_mk tw_612 rfl) rfl (Nat.le_of_ble_eq_true rfl) dX2_readOffer_4 (by rw [hR9]; decide) ?_
  refine x_if_ne C (tgt := 12) dX2_readOffer_7 (by decide) (fun hc2 => ?_) (fun hc2 => ?_)
  · rw [if_pos hc2] at h
    refine x_aload_n C dX2_readOffer_12 rfl 1 rfl ?_
    refine x_aload_n C dX2_readOffer_13 rfl 0 rfl ?_
    refine x_get C (C1 := "HostelBeds$Input") (T := TX2) (N := 7) (ci := 4) inXg2 _ (c_In) rfl 6 (by decide) (lw_g_mk tw_47 rfl) rfl dX2_readOffer_14 ?_
    refine x_put C (C1 := "HostelBeds$Hostel") (T := TX1) (N := 12) (ci := 3) inXg1 tyX1 tyX1_ok nmX1 _ (c_Ho hj1) rfl 10 (by decide) (lw_g_mk tw_217 rfl) rfl rfl rfl rfl (Nat.le_of_ble_eq_true rfl) dX2_readOffer_17 (s_Ho_offerNights hj1) ?_
    refine x_aload_n C dX2_readOffer_20 rfl 0 rfl ?_
    refine x_iconst C (v := 0) dX2_readOffer_21 (by decide) ?_
    refine x_bipush C (v := 50) dX2_readOffer_22 (by decide) ?_
    obtain ⟨q2, hk3, h⟩ := Option.bind_eq_some_iff.mp h
    refine x_callV C (As := [.int (0 : Int32), .int (50 : Int32)]) (rest := []) (lw_g_mk tw_613 rfl) (lw_g_mk tw_614 rfl) (c_In) (C1 := "HostelBeds$Input") (T := TX2) (N := 7) (ci := 4) rfl (okX2_readNumber l cy D B ek (0 : Int32) (50 : Int32) (wI q1.2 26 j1 0 (rI q1.2 11 0 0)) Y _ hk3) rfl rfl (by rw [hR9]; decide) (lw_g_mk tw_615 rfl) (lw_g_mk tw_2 rfl) (by decide) rfl (lw_g_mk tw_612 rfl) rfl (Nat.le_of_ble_eq_true rfl) dX2_readOffer_24 (by rw [hR9]; decide) ?_
    refine x_if_ne C (tgt := 32) dX2_readOffer_27 (by decide) (fun hc4 => ?_) (fun hc4 => ?_)
    · rw [if_pos hc4] at h
      refine x_aload_n C dX2_readOffer_32 rfl 1 rfl ?_
      refine x_aload_n C dX2_readOffer_33 rfl 0 rfl ?_
      refine x_get C (C1 := "HostelBeds$Input") (T := TX2) (N := 7) (ci := 4) inXg2 _ (c_In) rfl 6 (by decide) (lw_g_mk tw_47 rfl) rfl dX2_readOffer_34 ?_
      refine x_put C (C1 := "HostelBeds$Hostel") (T := TX1) (N := 12) (ci := 3) inXg1 tyX1 tyX1_ok nmX1 _ (c_Ho hj1) rfl 11 (by decide) (lw_g_mk tw_221 rfl) rfl rfl rfl rfl (Nat.le_of_ble_eq_true rfl) dX2_readOffer_37 (s_Ho_offerPercent hj1) ?_
      refine x_aload_n C dX2_readOffer_40 rfl 0 rfl ?_
      obtain ⟨q3, hk5, h⟩ := Option.bind_eq_some_iff.mp h
      refine x_callV C (As := []) (rest := []) (lw_g_mk tw_617 rfl) (lw_g_mk tw_618 rfl) (c_In) (C1 := "HostelBeds$Input") (T := TX2) (N := 7) (ci := 4) rfl (okX2_readEnd l cy D B ek (wI q2.2 27 j1 0 (rI q2.2 11 0 0)) Y _ hk5) rfl rfl (by rw [hR9]; decide) (lw_g_mk tw_619 rfl) (lw_g_mk tw_2 rfl) (by decide) rfl (lw_g_mk tw_616 rfl) rfl (Nat.le_of_ble_eq_true rfl) dX2_readOffer_41 (by rw [hR9]; decide) ?_
      obtain ⟨hg6, h⟩ := gd_some h
      cases h
      exact hret _ _ dX2_readOffer_44 (nar_Z hg6)
    · rw [if_neg hc4] at h
      refine x_iconst C (v := 0) dX2_readOffer_30 (by decide) ?_
      cases h
      exact hret _ _ dX2_readOffer_31 (nar_Z (Or.inl rfl))
  · rw [if_neg hc2] at h
    refine x_iconst C (v := 0) dX2_readOffer_10 (by decide) ?_
    cases h
    exact hret _ _ dX2_readOffer_11 (nar_Z (Or.inl rfl))
def fX2_readOver (j1 : Nat) (σ : Mem) : Option (Int32 × Mem) := ((fX2_readNumber (0 : Int32) (50 : Int32) σ).bind fun q1 => (if ¬ q1.1 = 0 then ((fX2_readEnd (wI q1.2 24 j1 0 (rI q1.2 11 0 0))).bind fun q2 => (gd (q2.1 = 0 ∨ q2.1 = 1) (some (q2.1, q2.2)))) else (some ((0 : Int32), q1.2))))
set_option maxHeartbeats 4000000 in
set_option maxRecDepth 100000 in
theorem okX2_readOver (l : Launch) (cy : Nat → ClassId) (D : va_G) (B : Nat) (ek : EK) (j1 : Nat) (σ : Mem) (Y : va_W) (hj1 : j1 < 12) (res : Int32 × Mem) (h : fX2_readOver j1 σ = some res) : CT l cy D B ek yX2_readOver cX2_readOver 2 (some .boolean) ({ frames := 3, cells := 0, slots := 0, locals := 62 } : Room) [.ref (B + oIn), .ref (B + oHo j1)] σ Y (some (.int res.1)) res.2 Y := by
  refine met_X (own := "HostelBeds$Input") (by decide) rfl (Nat.le_of_ble_eq_true rfl) ?_
  intro p e s m args below meth c C hrT hlk
  have hret : ∀ (pc9 : Nat) (lcs9 : List (Nat × Value)), decode cX2_readOver pc9 = .ok (.ireturn, 1) → narrow .boolean (.int res.1) = .int res.1 → X p l e ({ frames := 3, cells := 0, slots := 0, locals := 62 } : Room) s m args below meth c 2 cy D B 0 0 (MQ below (QR cy D B (some (.int res.1)) res.2 Y) args s 0 0 (aB B)) pc9 lcs9 [.int res.1] res.2 Y := fun _ _ hd hn => x_zret C hrT hlk hn hd
  generalize (MQ below (QR cy D B (some (.int res.1)) res.2 Y) args s 0 0 (aB B)) = Q at hret ⊢
  obtain ⟨R, hR9⟩ : ∃ R : Room, R = ({ frames := 3, cells := 0, slots := 0, locals := 62 } : Room) := ⟨_, rfl⟩
  rw [← hR9] at hret ⊢
  unfold fX2_readOver at h
  show X p l e R s m args below meth c 2 cy D B 0 0 Q 0 [(0, .ref (B + oIn)), (1, .ref (B + oHo j1))] [] σ Y
  refine x_aload_n C dX2_readOver_0 rfl 0 rfl ?_
  refine x_iconst C (v := 0) dX2_readOver_1 (by decide) ?_
  refine x_bipush C (v := 50) dX2_readOver_2 (by decide) ?_
  obtain ⟨q1, hk1, h⟩ := Option.bind_eq_some_iff.mp h
  refine x_callV C (As := [.int (0 : Int32), .int (50 : Int32)]) (rest := []) (lw_g_mk tw_613 rfl) (lw_g_mk tw_614 rfl) (c_In) (C1 := "HostelBeds$Input") (T := TX2) (N := 7) (ci := 4) rfl (okX2_readNumber l cy D B ek (0 : Int32) (50 : Int32) σ Y _ hk1) rfl rfl (by rw [hR9]; decide) (lw_g_mk tw_615 rfl) (lw_g_mk tw_2 rfl) (by decide) rfl (lw_g_mk tw_612 rfl) rfl (Nat.le_of_ble_eq_true rfl) dX2_readOver_4 (by rw [hR9]; decide) ?_
  refine x_if_ne C (tgt := 12) dX2_readOver_7 (by decide) (fun hc2 => ?_) (fun hc2 => ?_)
  · rw [if_pos hc2] at h
    refine x_aload_n C dX2_readOver_12 rfl 1 rfl ?_
    refine x_aload_n C dX2_readOver_13 rfl 0 rfl ?_
    refine x_get C (C1 := "HostelBeds$Input") (T := TX2) (N := 7) (ci := 4) inXg2 _ (c_In) rfl 6 (by decide) (lw_g_mk tw_47 rfl) rfl dX2_readOver_14 ?_
    refine x_put C (C1 := "HostelBeds$Hostel") (T := TX1) (N := 12) (ci := 3) inXg1 tyX1 tyX1_ok nmX1 _ (c_Ho hj1) rfl 8 (by decide) (lw_g_mk tw_209 rfl) rfl rfl rfl rfl (Nat.le_of_ble_eq_true rfl) dX2_readOver_17 (s_Ho_over hj1) ?_
    refine x_aload_n C dX2_readOver_20 rfl 0 rfl ?_
    obtain ⟨q2, hk3, h⟩ := Option.bind_eq_some_iff.mp h
    refine x_callV C (As := []) (rest := []) (lw_g_mk tw_617 rfl) (lw_g_mk tw_618 rfl) (c_In) (C1 := "HostelBeds$Input") (T := TX2) (N := 7) (ci := 4) rfl (okX2_readEnd l cy D B ek (wI q1.2 24 j1 0 (rI q1.2 11 0 0)) Y _ hk3) rfl rfl (by rw [hR9]; decide) (lw_g_mk tw_619 rfl) (lw_g_mk tw_2 rfl) (by decide) rfl (lw_g_mk tw_616 rfl) rfl (Nat.le_of_ble_eq_true rfl) dX2_readOver_21 (by rw [hR9]; decide) ?_
    obtain ⟨hg4, h⟩ := gd_some h
    cases h
    exact hret _ _ dX2_readOver_24 (nar_Z hg4)
  · rw [if_neg hc2] at h
    refine x_iconst C (v := 0) dX2_readOver_10 (by decide) ?_
    cases h
    exact hret _ _ dX2_readOver_11 (nar_Z (Or.inl rfl))
def fX2_kindTold (σ : Mem) : Option (Int32) := ((fX2_isWord 1 σ).bind fun q1 => (if q1 = 0 then ((fX2_isWord 2 σ).bind fun q2 => (if q2 = 0 then ((fX2_isWord 3 σ).bind fun q3 => (if q3 = 0 then (some ((-1 : Int32))) else (some ((2 : Int32))))) else (some ((1 : Int32))))) else (some ((0 : Int32)))))
set_option maxHeartbeats 4000000 in
set_option maxRecDepth 100000 in
theorem okX2_kindTold (l : Launch) (cy : Nat → ClassId) (D : va_G) (B : Nat) (ek : EK) (σ : Mem) (Y : va_W) (res : Int32) (h : fX2_kindTold σ = some res) : CT l cy D B ek yX2_kindTold cX2_kindTold 1 (some .int) ({ frames := 8, cells := 0, slots := 0, locals := 163 } : Room) [.ref (B + oIn)] σ Y (some (.int res)) σ Y := by
  refine met_X (own := "HostelBeds$Input") (by decide) rfl (Nat.le_of_ble_eq_true rfl) ?_
  intro p e s m args below meth c C hrT hlk
  have hret : ∀ (pc9 : Nat) (lcs9 : List (Nat × Value)), decode cX2_kindTold pc9 = .ok (.ireturn, 1) → narrow .int (.int res) = .int res → X p l e ({ frames := 8, cells := 0, slots := 0, locals := 163 } : Room) s m args below meth c 1 cy D B 0 0 (MQ below (QR cy D B (some (.int res)) σ Y) args s 0 0 (aB B)) pc9 lcs9 [.int res] σ Y := fun _ _ hd hn => x_zret C hrT hlk hn hd
  generalize (MQ below (QR cy D B (some (.int res)) σ Y) args s 0 0 (aB B)) = Q at hret ⊢
  obtain ⟨R, hR9⟩ : ∃ R : Room, R = ({ frames := 8, cells := 0, slots := 0, locals := 163 } : Room) := ⟨_, rfl⟩
  rw [← hR9] at hret ⊢
  unfold fX2_kindTold at h
  show X p l e R s m args below meth c 1 cy D B 0 0 Q 0 [(0, .ref (B + oIn))] [] σ Y
  refine x_aload_n C dX2_kindTold_0 rfl 0 rfl ?_
  refine x_ldcS C (i := 1) (tx := "mixed") rfl dX2_kindTold_1 ?_
  obtain ⟨q1, hk1, h⟩ := Option.bind_eq_some_iff.mp h
  refine x_callV C (As := [.ref (ek.1 1)]) (rest := []) (lw_g_mk tw_592 rfl) (lw_g_mk tw_593 rfl) (c_In) (C1 := "HostelBeds$Input") (T := TX2) (N := 7) (ci := 4) rfl (okX2_isWord l cy D B ek 1 σ Y (by decide) _ hk1) rfl rfl (by rw [hR9]; decide) (lw_g_mk tw_594 rfl) (lw_g_mk tw_2 rfl) (by decide) rfl (lw_g_mk tw_591 rfl) rfl (Nat.le_of_ble_eq_true rfl) dX2_kindTold_3 (by rw [hR9]; decide) ?_
  refine x_if_eq C (tgt := 11) dX2_kindTold_6 (by decide) (fun hc2 => ?_) (fun hc2 => ?_)
  · rw [if_pos hc2] at h
    refine x_aload_n C dX2_kindTold_11 rfl 0 rfl ?_
    refine x_ldcS C (i := 2) (tx := "women") rfl dX2_kindTold_12 ?_
    obtain ⟨q2, hk3, h⟩ := Option.bind_eq_some_iff.mp h
    refine x_callV C (As := [.ref (ek.1 2)]) (rest := []) (lw_g_mk tw_592 rfl) (lw_g_mk tw_593 rfl) (c_In) (C1 := "HostelBeds$Input") (T := TX2) (N := 7) (ci := 4) rfl (okX2_isWord l cy D B ek 2 σ Y (by decide) _ hk3) rfl rfl (by rw [hR9]; decide) (lw_g_mk tw_594 rfl) (lw_g_mk tw_2 rfl) (by decide) rfl (lw_g_mk tw_591 rfl) rfl (Nat.le_of_ble_eq_true rfl) dX2_kindTold_14 (by rw [hR9]; decide) ?_
    refine x_if_eq C (tgt := 22) dX2_kindTold_17 (by decide) (fun hc4 => ?_) (fun hc4 => ?_)
    · rw [if_pos hc4] at h
      refine x_aload_n C dX2_kindTold_22 rfl 0 rfl ?_
      refine x_ldcS C (i := 3) (tx := "men") rfl dX2_kindTold_23 ?_
      obtain ⟨q3, hk5, h⟩ := Option.bind_eq_some_iff.mp h
      refine x_callV C (As := [.ref (ek.1 3)]) (rest := []) (lw_g_mk tw_592 rfl) (lw_g_mk tw_593 rfl) (c_In) (C1 := "HostelBeds$Input") (T := TX2) (N := 7) (ci := 4) rfl (okX2_isWord l cy D B ek 3 σ Y (by decide) _ hk5) rfl rfl (by rw [hR9]; decide) (lw_g_mk tw_594 rfl) (lw_g_mk tw_2 rfl) (by decide) rfl (lw_g_mk tw_591 rfl) rfl (Nat.le_of_ble_eq_true rfl) dX2_kindTold_25 (by rw [hR9]; decide) ?_
      refine x_if_eq C (tgt := 35) dX2_kindTold_28 (by decide) (fun hc6 => ?_) (fun hc6 => ?_)
      · rw [if_pos hc6] at h
        refine x_iconst C (v := -1) dX2_kindTold_35 (by decide) ?_
        cases h
        exact hret _ _ dX2_kindTold_36 rfl
      · rw [if_neg hc6] at h
        refine x_iconst C (v := 2) dX2_kindTold_31 (by decide) ?_
        refine x_goto C (tgt := 36) dX2_kindTold_32 (by decide) ?_
        cases h
        exact hret _ _ dX2_kindTold_36 rfl
    · rw [if_neg hc4] at h
      refine x_iconst C (v := 1) dX2_kindTold_20 (by decide) ?_
      cases h
      exact hret _ _ dX2_kindTold_21 rfl
  · rw [if_neg hc2] at h
    refine x_iconst C (v := 0) dX2_kindTold_9 (by decide) ?_
    cases h
    exact hret _ _ dX2_kindTold_10 rfl
def fX2_readRoom (j1 : Nat) (σ : Mem) : Option (Int32 × Mem) := (if (rI σ 20 j1 0) < (8 : Int32) then (gd (inb (rI σ 20 j1 0) 8) ((fX2_advance σ).bind fun q1 => (if ¬ (rI q1 10 0 0) = (1 : Int32) then (some ((0 : Int32), q1)) else ((fX1_roomNamed j1 (rJ q1 0 0 0) q1).bind fun q2 => (if q2 = (-1 : Int32) then ((fX2_advance (wJ q1 1 j1 ((rI σ 20 j1 0).toNatClampNeg) (rJ q1 0 0 0))).bind fun q3 => ((fX2_kindTold q3).bind fun q4 => (if (rI (wI q3 30 j1 ((rI σ 20 j1 0).toNatClampNeg) q4) 30 j1 ((rI σ 20 j1 0).toNatClampNeg)) = (-1 : Int32) then (some ((0 : Int32), wI q3 30 j1 ((rI σ 20 j1 0).toNatClampNeg) q4)) else ((fX2_readNumber (1 : Int32) (10 : Int32) (wI q3 30 j1 ((rI σ 20 j1 0).toNatClampNeg) q4)).bind fun q5 => (if ¬ q5.1 = 0 then ((fX2_readNumber (0 : Int32) (99 : Int32) (wI q5.2 31 j1 ((rI σ 20 j1 0).toNatClampNeg) (rI q5.2 11 0 0))).bind fun q6 => (if ¬ q6.1 = 0 then ((fX2_readNumber (1 : Int32) (200 : Int32) (wI q6.2 32 j1 ((rI σ 20 j1 0).toNatClampNeg) (rI q6.2 11 0 0))).bind fun q7 => (if ¬ q7.1 = 0 then ((fX2_readEnd (wI q7.2 33 j1 ((rI σ 20 j1 0).toNatClampNeg) (rI q7.2 11 0 0))).bind fun q8 => (if ¬ q8.1 = 0 then (some ((1 : Int32), wI (wI q8.2 20 j1 0 ((rI q8.2 20 j1 0) + (1 : Int32))) 21 j1 0 ((rI (wI q8.2 20 j1 0 ((rI q8.2 20 j1 0) + (1 : Int32))) 21 j1 0) + (rI (wI q8.2 20 j1 0 ((rI q8.2 20 j1 0) + (1 : Int32))) 31 j1 ((rI σ 20 j1 0).toNatClampNeg))))) else (some ((0 : Int32), q8.2)))) else (some ((0 : Int32), q7.2)))) else (some ((0 : Int32), q6.2)))) else (some ((0 : Int32), q5.2))))))) else (some ((0 : Int32), q1))))))) else (some ((0 : Int32), σ)))
set_option maxHeartbeats 4000000 in
set_option maxRecDepth 100000 in
theorem okX2_readRoom (l : Launch) (cy : Nat → ClassId) (D : va_G) (B : Nat) (ek : EK) (j1 : Nat) (σ : Mem) (Y : va_W) (hj1 : j1 < 12) (res : Int32 × Mem) (h : fX2_readRoom j1 σ = some res) : CT l cy D B ek yX2_readRoom cX2_readRoom 3 (some .boolean) ({ frames := 9, cells := 0, slots := 0, locals := 183 } : Room) [.ref (B + oIn), .ref (B + oHo j1)] σ Y (some (.int res.1)) res.2 Y := by
  refine met_X (own := "HostelBeds$Input") (by decide) rfl (Nat.le_of_ble_eq_true rfl) ?_
  intro p e s m args below meth c C hrT hlk
  have hret : ∀ (pc9 : Nat) (lcs9 : List (Nat × Value)), decode cX2_readRoom pc9 = .ok (.ireturn, 1) → narrow .boolean (.int res.1) = .int res.1 → X p l e ({ frames := 9, cells := 0, slots := 0, locals := 183 } : Room) s m args below meth c 3 cy D B 0 0 (MQ below (QR cy D B (some (.int res.1)) res.2 Y) args s 0 0 (aB B)) pc9 lcs9 [.int res.1] res.2 Y := fun _ _ hd hn => x_zret C hrT hlk hn hd
  generalize (MQ below (QR cy D B (some (.int res.1)) res.2 Y) args s 0 0 (aB B)) = Q at hret ⊢
  obtain ⟨R, hR9⟩ : ∃ R : Room, R = ({ frames := 9, cells := 0, slots := 0, locals := 183 } : Room) := ⟨_, rfl⟩
  rw [← hR9] at hret ⊢
  unfold fX2_readRoom at h
  show X p l e R s m args below meth c 3 cy D B 0 0 Q 0 [(0, .ref (B + oIn)), (1, .ref (B + oHo j1))] [] σ Y
  refine x_aload_n C dX2_readRoom_0 rfl 1 rfl ?_
  refine x_get C (C1 := "HostelBeds$Hostel") (T := TX1) (N := 12) (ci := 3) inXg1 _ (c_Ho hj1) rfl 1 (by decide) (lw_g_mk tw_189 rfl) rfl dX2_readRoom_1 ?_
  refine x_bipush C (v := 8) dX2_readRoom_4 (by decide) ?_
  refine x_icmp_lt C (tgt := 11) dX2_readRoom_6 (by decide) (fun hc1 => ?_) (fun hc1 => ?_)
  · rw [if_pos hc1] at h
    refine x_aload_n C dX2_readRoom_11 rfl 1 rfl ?_
    refine x_get C (C1 := "HostelBeds$Hostel") (T := TX1) (N := 12) (ci := 3) inXg1 _ (c_Ho hj1) rfl 0 (by decide) (lw_g_mk tw_185 rfl) rfl dX2_readRoom_12 ?_
    refine x_aload_n C dX2_readRoom_15 rfl 1 rfl ?_
    refine x_get C (C1 := "HostelBeds$Hostel") (T := TX1) (N := 12) (ci := 3) inXg1 _ (c_Ho hj1) rfl 1 (by decide) (lw_g_mk tw_189 rfl) rfl dX2_readRoom_16 ?_
    obtain ⟨hg2, h⟩ := gd_some h
    refine x_aldq C _ 5 (C1 := "HostelBeds$Room") (c_Rms hj1) rfl hg2 rfl dX2_readRoom_19 ?_
    refine x_astore_n C [(2, .ref (B + oRm j1 ((rI σ 20 j1 0).toNatClampNeg))), (0, .ref (B + oIn)), (1, .ref (B + oHo j1))] dX2_readRoom_20 rfl (by decide) rfl ?_
    refine x_aload_n C dX2_readRoom_21 rfl 1 rfl ?_
    obtain ⟨q1, hk3, h⟩ := Option.bind_eq_some_iff.mp h
    refine x_callV C (As := []) (rest := []) (lw_g_mk tw_579 rfl) (lw_g_mk tw_580 rfl) (c_In) (C1 := "HostelBeds$Input") (T := TX2) (N := 7) (ci := 4) rfl (okX2_advance l cy D B ek σ Y _ hk3) rfl rfl (by rw [hR9]; decide) (lw_g_mk tw_581 rfl) (lw_g_mk tw_2 rfl) (by decide) rfl (lw_g_mk tw_578 rfl) rfl (Nat.le_of_ble_eq_true rfl) dX2_readRoom_22 (by rw [hR9]; decide) ?_
    refine x_aload_n C dX2_readRoom_25 rfl 1 rfl ?_
    refine x_get C (C1 := "HostelBeds$Input") (T := TX2) (N := 7) (ci := 4) inXg2 _ (c_In) rfl 4 (by decide) (lw_g_mk tw_45 rfl) rfl dX2_readRoom_26 ?_
    refine x_iconst C (v := 1) dX2_readRoom_29 (by decide) ?_
    refine x_icmp_ne C (tgt := 45) dX2_readRoom_30 (by decide) (fun hc4 => ?_) (fun hc4 => ?_)
    · rw [if_pos hc4] at h
      refine x_iconst C (v := 0) dX2_readRoom_45 (by decide) ?_
      cases h
      exact hret _ _ dX2_readRoom_46 (nar_Z (Or.inl rfl))
    · rw [if_neg hc4] at h
      refine x_aload_n C dX2_readRoom_33 rfl 2 rfl ?_
      refine x_aload_n C dX2_readRoom_34 rfl 1 rfl ?_
      refine x_get C (C1 := "HostelBeds$Input") (T := TX2) (N := 7) (ci := 4) inXg2 _ (c_In) rfl 5 (by decide) (lw_g_mk tw_46 rfl) rfl dX2_readRoom_35 ?_
      obtain ⟨q2, hk5, h⟩ := Option.bind_eq_some_iff.mp h
      refine x_callV C (As := [.long (rJ q1 0 0 0)]) (rest := []) (lw_g_mk tw_602 rfl) (lw_g_mk tw_603 rfl) (c_Ho hj1) (C1 := "HostelBeds$Hostel") (T := TX1) (N := 12) (ci := 3) rfl (okX1_roomNamed l cy D B ek j1 (rJ q1 0 0 0) q1 Y hj1 _ hk5) rfl rfl (by rw [hR9]; decide) (lw_g_mk tw_604 rfl) (lw_g_mk tw_3 rfl) (by decide) rfl (lw_g_mk tw_601 rfl) rfl (Nat.le_of_ble_eq_true rfl) dX2_readRoom_38 (by rw [hR9]; decide) ?_
      refine x_iconst C (v := -1) dX2_readRoom_41 (by decide) ?_
      refine x_icmp_eq C (tgt := 47) dX2_readRoom_42 (by decide) (fun hc6 => ?_) (fun hc6 => ?_)
      · rw [if_pos hc6] at h
        refine x_aload_n C dX2_readRoom_47 rfl 0 rfl ?_
        refine x_aload_n C dX2_readRoom_48 rfl 1 rfl ?_
        refine x_get C (C1 := "HostelBeds$Input") (T := TX2) (N := 7) (ci := 4) inXg2 _ (c_In) rfl 5 (by decide) (lw_g_mk tw_46 rfl) rfl dX2_readRoom_49 ?_
        refine x_put C (C1 := "HostelBeds$Room") (T := TX4) (N := 5) (ci := 6) inXg4 tyX4 tyX4_ok nmX4 _ (c_Rm hj1 (inb_lt hg2)) rfl 0 (by decide) (lw_g_mk tw_80 rfl) rfl rfl rfl rfl (Nat.le_of_ble_eq_true rfl) dX2_readRoom_52 (s_Rm_name hj1 (inb_lt hg2)) ?_
        refine x_aload_n C dX2_readRoom_55 rfl 1 rfl ?_
        obtain ⟨q3, hk7, h⟩ := Option.bind_eq_some_iff.mp h
        refine x_callV C (As := []) (rest := []) (lw_g_mk tw_579 rfl) (lw_g_mk tw_580 rfl) (c_In) (C1 := "HostelBeds$Input") (T := TX2) (N := 7) (ci := 4) rfl (okX2_advance l cy D B ek (wJ q1 1 j1 ((rI σ 20 j1 0).toNatClampNeg) (rJ q1 0 0 0)) Y _ hk7) rfl rfl (by rw [hR9]; decide) (lw_g_mk tw_581 rfl) (lw_g_mk tw_2 rfl) (by decide) rfl (lw_g_mk tw_578 rfl) rfl (Nat.le_of_ble_eq_true rfl) dX2_readRoom_56 (by rw [hR9]; decide) ?_
        refine x_aload_n C dX2_readRoom_59 rfl 0 rfl ?_
        refine x_aload_n C dX2_readRoom_60 rfl 1 rfl ?_
        obtain ⟨q4, hk8, h⟩ := Option.bind_eq_some_iff.mp h
        refine x_callV C (As := []) (rest := [.ref (B + oRm j1 ((rI σ 20 j1 0).toNatClampNeg))]) (lw_g_mk tw_606 rfl) (lw_g_mk tw_607 rfl) (c_In) (C1 := "HostelBeds$Input") (T := TX2) (N := 7) (ci := 4) rfl (okX2_kindTold l cy D B ek q3 Y _ hk8) rfl rfl (by rw [hR9]; decide) (lw_g_mk tw_608 rfl) (lw_g_mk tw_2 rfl) (by decide) rfl (lw_g_mk tw_605 rfl) rfl (Nat.le_of_ble_eq_true rfl) dX2_readRoom_61 (by rw [hR9]; decide) ?_
        refine x_put C (C1 := "HostelBeds$Room") (T := TX4) (N := 5) (ci := 6) inXg4 tyX4 tyX4_ok nmX4 _ (c_Rm hj1 (inb_lt hg2)) rfl 1 (by decide) (lw_g_mk tw_83 rfl) rfl rfl rfl rfl (Nat.le_of_ble_eq_true rfl) dX2_readRoom_64 (s_Rm_kind hj1 (inb_lt hg2)) ?_
        refine x_aload_n C dX2_readRoom_67 rfl 0 rfl ?_
        refine x_get C (C1 := "HostelBeds$Room") (T := TX4) (N := 5) (ci := 6) inXg4 _ (c_Rm hj1 (inb_lt hg2)) rfl 1 (by decide) (lw_g_mk tw_83 rfl) rfl dX2_readRoom_68 ?_
        refine x_iconst C (v := -1) dX2_readRoom_71 (by decide) ?_
        refine x_icmp_eq C (tgt := 85) dX2_readRoom_72 (by decide) (fun hc9 => ?_) (fun hc9 => ?_)
        · rw [if_pos hc9] at h
          refine x_iconst C (v := 0) dX2_readRoom_85 (by decide) ?_
          cases h
          exact hret _ _ dX2_readRoom_86 (nar_Z (Or.inl rfl))
        · rw [if_neg hc9] at h
          refine x_aload_n C dX2_readRoom_75 rfl 1 rfl ?_
          refine x_iconst C (v := 1) dX2_readRoom_76 (by decide) ?_
          refine x_bipush C (v := 10) dX2_readRoom_77 (by decide) ?_
          obtain ⟨q5, hk10, h⟩ := Option.bind_eq_some_iff.mp h
          refine x_callV C (As := [.int (1 : Int32), .int (10 : Int32)]) (rest := []) (lw_g_mk tw_613 rfl) (lw_g_mk tw_614 rfl) (c_In) (C1 := "HostelBeds$Input") (T := TX2) (N := 7) (ci := 4) rfl (okX2_readNumber l cy D B ek (1 : Int32) (10 : Int32) (wI q3 30 j1 ((rI σ 20 j1 0).toNatClampNeg) q4) Y _ hk10) rfl rfl (by rw [hR9]; decide) (lw_g_mk tw_615 rfl) (lw_g_mk tw_2 rfl) (by decide) rfl (lw_g_mk tw_612 rfl) rfl (Nat.le_of_ble_eq_true rfl) dX2_readRoom_79 (by rw [hR9]; decide) ?_
          refine x_if_ne C (tgt := 87) dX2_readRoom_82 (by decide) (fun hc11 => ?_) (fun hc11 => ?_)
          · rw [if_pos hc11] at h
            refine x_aload_n C dX2_readRoom_87 rfl 0 rfl ?_
            refine x_aload_n C dX2_readRoom_88 rfl 1 rfl ?_
            refine x_get C (C1 := "HostelBeds$Input") (T := TX2) (N := 7) (ci := 4) inXg2 _ (c_In) rfl 6 (by decide) (lw_g_mk tw_47 rfl) rfl dX2_readRoom_89 ?_
            refine x_put C (C1 := "HostelBeds$Room") (T := TX4) (N := 5) (ci := 6) inXg4 tyX4 tyX4_ok nmX4 _ (c_Rm hj1 (inb_lt hg2)) rfl 2 (by decide) (lw_g_mk tw_87 rfl) rfl rfl rfl rfl (Nat.le_of_ble_eq_true rfl) dX2_readRoom_92 (s_Rm_beds hj1 (inb_lt hg2)) ?_
            refine x_aload_n C dX2_readRoom_95 rfl 1 rfl ?_
            refine x_iconst C (v := 0) dX2_readRoom_96 (by decide) ?_
            refine x_bipush C (v := 99) dX2_readRoom_97 (by decide) ?_
            obtain ⟨q6, hk12, h⟩ := Option.bind_eq_some_iff.mp h
            refine x_callV C (As := [.int (0 : Int32), .int (99 : Int32)]) (rest := []) (lw_g_mk tw_613 rfl) (lw_g_mk tw_614 rfl) (c_In) (C1 := "HostelBeds$Input") (T := TX2) (N := 7) (ci := 4) rfl (okX2_readNumber l cy D B ek (0 : Int32) (99 : Int32) (wI q5.2 31 j1 ((rI σ 20 j1 0).toNatClampNeg) (rI q5.2 11 0 0)) Y _ hk12) rfl rfl (by rw [hR9]; decide) (lw_g_mk tw_615 rfl) (lw_g_mk tw_2 rfl) (by decide) rfl (lw_g_mk tw_612 rfl) rfl (Nat.le_of_ble_eq_true rfl) dX2_readRoom_99 (by rw [hR9]; decide) ?_
            refine x_if_ne C (tgt := 107) dX2_readRoom_102 (by decide) (fun hc13 => ?_) (fun hc13 => ?_)
            · rw [if_pos hc13] at h
              refine x_aload_n C dX2_readRoom_107 rfl 0 rfl ?_
              refine x_aload_n C dX2_readRoom_108 rfl 1 rfl ?_
              refine x_get C (C1 := "HostelBeds$Input") (T := TX2) (N := 7) (ci := 4) inXg2 _ (c_In) rfl 6 (by decide) (lw_g_mk tw_47 rfl) rfl dX2_readRoom_109 ?_
              refine x_put C (C1 := "HostelBeds$Room") (T := TX4) (N := 5) (ci := 6) inXg4 tyX4 tyX4_ok nmX4 _ (c_Rm hj1 (inb_lt hg2)) rfl 3 (by decide) (lw_g_mk tw_90 rfl) rfl rfl rfl rfl (Nat.le_of_ble_eq_true rfl) dX2_readRoom_112 (s_Rm_age hj1 (inb_lt hg2)) ?_
              refine x_aload_n C dX2_readRoom_115 rfl 1 rfl ?_
              refine x_iconst C (v := 1) dX2_readRoom_116 (by decide) ?_
              refine x_sipush C (v := 200) dX2_readRoom_117 (by decide) ?_
              obtain ⟨q7, hk14, h⟩ := Option.bind_eq_some_iff.mp h
              refine x_callV C (As := [.int (1 : Int32), .int (200 : Int32)]) (rest := []) (lw_g_mk tw_613 rfl) (lw_g_mk tw_614 rfl) (c_In) (C1 := "HostelBeds$Input") (T := TX2) (N := 7) (ci := 4) rfl (okX2_readNumber l cy D B ek (1 : Int32) (200 : Int32) (wI q6.2 32 j1 ((rI σ 20 j1 0).toNatClampNeg) (rI q6.2 11 0 0)) Y _ hk14) rfl rfl (by rw [hR9]; decide) (lw_g_mk tw_615 rfl) (lw_g_mk tw_2 rfl) (by decide) rfl (lw_g_mk tw_612 rfl) rfl (Nat.le_of_ble_eq_true rfl) dX2_readRoom_120 (by rw [hR9]; decide) ?_
              refine x_if_ne C (tgt := 128) dX2_readRoom_123 (by decide) (fun hc15 => ?_) (fun hc15 => ?_)
              · rw [if_pos hc15] at h
                refine x_aload_n C dX2_readRoom_128 rfl 0 rfl ?_
                refine x_aload_n C dX2_readRoom_129 rfl 1 rfl ?_
                refine x_get C (C1 := "HostelBeds$Input") (T := TX2) (N := 7) (ci := 4) inXg2 _ (c_In) rfl 6 (by decide) (lw_g_mk tw_47 rfl) rfl dX2_readRoom_130 ?_
                refine x_put C (C1 := "HostelBeds$Room") (T := TX4) (N := 5) (ci := 6) inXg4 tyX4 tyX4_ok nmX4 _ (c_Rm hj1 (inb_lt hg2)) rfl 4 (by decide) (lw_g_mk tw_92 rfl) rfl rfl rfl rfl (Nat.le_of_ble_eq_true rfl) dX2_readRoom_133 (s_Rm_price hj1 (inb_lt hg2)) ?_
                refine x_aload_n C dX2_readRoom_136 rfl 1 rfl ?_
                obtain ⟨q8, hk16, h⟩ := Option.bind_eq_some_iff.mp h
                refine x_callV C (As := []) (rest := []) (lw_g_mk tw_617 rfl) (lw_g_mk tw_618 rfl) (c_In) (C1 := "HostelBeds$Input") (T := TX2) (N := 7) (ci := 4) rfl (okX2_readEnd l cy D B ek (wI q7.2 33 j1 ((rI σ 20 j1 0).toNatClampNeg) (rI q7.2 11 0 0)) Y _ hk16) rfl rfl (by rw [hR9]; decide) (lw_g_mk tw_619 rfl) (lw_g_mk tw_2 rfl) (by decide) rfl (lw_g_mk tw_616 rfl) rfl (Nat.le_of_ble_eq_true rfl) dX2_readRoom_137 (by rw [hR9]; decide) ?_
                refine x_if_ne C (tgt := 145) dX2_readRoom_140 (by decide) (fun hc17 => ?_) (fun hc17 => ?_)
                · rw [if_pos hc17] at h
                  refine x_aload_n C dX2_readRoom_145 rfl 2 rfl ?_
                  refine x_dup C dX2_readRoom_146 rfl ?_
                  refine x_get C (C1 := "HostelBeds$Hostel") (T := TX1) (N := 12) (ci := 3) inXg1 _ (c_Ho hj1) rfl 1 (by decide) (lw_g_mk tw_189 rfl) rfl dX2_readRoom_147 ?_
                  refine x_iconst C (v := 1) dX2_readRoom_150 (by decide) ?_
                  refine x_iadd C dX2_readRoom_151 ?_
                  refine x_put C (C1 := "HostelBeds$Hostel") (T := TX1) (N := 12) (ci := 3) inXg1 tyX1 tyX1_ok nmX1 _ (c_Ho hj1) rfl 1 (by decide) (lw_g_mk tw_189 rfl) rfl rfl rfl rfl (Nat.le_of_ble_eq_true rfl) dX2_readRoom_152 (s_Ho_roomCount hj1) ?_
                  refine x_aload_n C dX2_readRoom_155 rfl 2 rfl ?_
                  refine x_dup C dX2_readRoom_156 rfl ?_
                  refine x_get C (C1 := "HostelBeds$Hostel") (T := TX1) (N := 12) (ci := 3) inXg1 _ (c_Ho hj1) rfl 2 (by decide) (lw_g_mk tw_192 rfl) rfl dX2_readRoom_157 ?_
                  refine x_aload_n C dX2_readRoom_160 rfl 0 rfl ?_
                  refine x_get C (C1 := "HostelBeds$Room") (T := TX4) (N := 5) (ci := 6) inXg4 _ (c_Rm hj1 (inb_lt hg2)) rfl 2 (by decide) (lw_g_mk tw_87 rfl) rfl dX2_readRoom_161 ?_
                  refine x_iadd C dX2_readRoom_164 ?_
                  refine x_put C (C1 := "HostelBeds$Hostel") (T := TX1) (N := 12) (ci := 3) inXg1 tyX1 tyX1_ok nmX1 _ (c_Ho hj1) rfl 2 (by decide) (lw_g_mk tw_192 rfl) rfl rfl rfl rfl (Nat.le_of_ble_eq_true rfl) dX2_readRoom_165 (s_Ho_bedCount hj1) ?_
                  refine x_iconst C (v := 1) dX2_readRoom_168 (by decide) ?_
                  cases h
                  exact hret _ _ dX2_readRoom_169 (nar_Z (Or.inr rfl))
                · rw [if_neg hc17] at h
                  refine x_iconst C (v := 0) dX2_readRoom_143 (by decide) ?_
                  cases h
                  exact hret _ _ dX2_readRoom_144 (nar_Z (Or.inl rfl))
              · rw [if_neg hc15] at h
                refine x_iconst C (v := 0) dX2_readRoom_126 (by decide) ?_
                cases h
                exact hret _ _ dX2_readRoom_127 (nar_Z (Or.inl rfl))
            · rw [if_neg hc13] at h
              refine x_iconst C (v := 0) dX2_readRoom_105 (by decide) ?_
              cases h
              exact hret _ _ dX2_readRoom_106 (nar_Z (Or.inl rfl))
          · rw [if_neg hc11] at h
            refine x_iconst C (v := 0) dX2_readRoom_85 (by decide) ?_
            cases h
            exact hret _ _ dX2_readRoom_86 (nar_Z (Or.inl rfl))
      · rw [if_neg hc6] at h
        refine x_iconst C (v := 0) dX2_readRoom_45 (by decide) ?_
        cases h
        exact hret _ _ dX2_readRoom_46 (nar_Z (Or.inl rfl))
  · rw [if_neg hc1] at h
    refine x_iconst C (v := 0) dX2_readRoom_9 (by decide) ?_
    cases h
    exact hret _ _ dX2_readRoom_10 (nar_Z (Or.inl rfl))
def fX2_readWalk (j1 : Nat) (σ : Mem) : Option (Int32 × Mem) := ((fX2_readNumber (0 : Int32) (300 : Int32) σ).bind fun q1 => (if ¬ q1.1 = 0 then ((fX2_readEnd (wI q1.2 25 j1 0 (rI q1.2 11 0 0))).bind fun q2 => (gd (q2.1 = 0 ∨ q2.1 = 1) (some (q2.1, q2.2)))) else (some ((0 : Int32), q1.2))))
set_option maxHeartbeats 4000000 in
set_option maxRecDepth 100000 in
theorem okX2_readWalk (l : Launch) (cy : Nat → ClassId) (D : va_G) (B : Nat) (ek : EK) (j1 : Nat) (σ : Mem) (Y : va_W) (hj1 : j1 < 12) (res : Int32 × Mem) (h : fX2_readWalk j1 σ = some res) : CT l cy D B ek yX2_readWalk cX2_readWalk 2 (some .boolean) ({ frames := 3, cells := 0, slots := 0, locals := 62 } : Room) [.ref (B + oIn), .ref (B + oHo j1)] σ Y (some (.int res.1)) res.2 Y := by
  refine met_X (own := "HostelBeds$Input") (by decide) rfl (Nat.le_of_ble_eq_true rfl) ?_
  intro p e s m args below meth c C hrT hlk
  have hret : ∀ (pc9 : Nat) (lcs9 : List (Nat × Value)), decode cX2_readWalk pc9 = .ok (.ireturn, 1) → narrow .boolean (.int res.1) = .int res.1 → X p l e ({ frames := 3, cells := 0, slots := 0, locals := 62 } : Room) s m args below meth c 2 cy D B 0 0 (MQ below (QR cy D B (some (.int res.1)) res.2 Y) args s 0 0 (aB B)) pc9 lcs9 [.int res.1] res.2 Y := fun _ _ hd hn => x_zret C hrT hlk hn hd
  generalize (MQ below (QR cy D B (some (.int res.1)) res.2 Y) args s 0 0 (aB B)) = Q at hret ⊢
  obtain ⟨R, hR9⟩ : ∃ R : Room, R = ({ frames := 3, cells := 0, slots := 0, locals := 62 } : Room) := ⟨_, rfl⟩
  rw [← hR9] at hret ⊢
  unfold fX2_readWalk at h
  show X p l e R s m args below meth c 2 cy D B 0 0 Q 0 [(0, .ref (B + oIn)), (1, .ref (B + oHo j1))] [] σ Y
  refine x_aload_n C dX2_readWalk_0 rfl 0 rfl ?_
  refine x_iconst C (v := 0) dX2_readWalk_1 (by decide) ?_
  refine x_sipush C (v := 300) dX2_readWalk_2 (by decide) ?_
  obtain ⟨q1, hk1, h⟩ := Option.bind_eq_some_iff.mp h
  refine x_callV C (As := [.int (0 : Int32), .int (300 : Int32)]) (rest := []) (lw_g_mk tw_613 rfl) (lw_g_mk tw_614 rfl) (c_In) (C1 := "HostelBeds$Input") (T := TX2) (N := 7) (ci := 4) rfl (okX2_readNumber l cy D B ek (0 : Int32) (300 : Int32) σ Y _ hk1) rfl rfl (by rw [hR9]; decide) (lw_g_mk tw_615 rfl) (lw_g_mk tw_2 rfl) (by decide) rfl (lw_g_mk tw_612 rfl) rfl (Nat.le_of_ble_eq_true rfl) dX2_readWalk_5 (by rw [hR9]; decide) ?_
  refine x_if_ne C (tgt := 13) dX2_readWalk_8 (by decide) (fun hc2 => ?_) (fun hc2 => ?_)
  · rw [if_pos hc2] at h
    refine x_aload_n C dX2_readWalk_13 rfl 1 rfl ?_
    refine x_aload_n C dX2_readWalk_14 rfl 0 rfl ?_
    refine x_get C (C1 := "HostelBeds$Input") (T := TX2) (N := 7) (ci := 4) inXg2 _ (c_In) rfl 6 (by decide) (lw_g_mk tw_47 rfl) rfl dX2_readWalk_15 ?_
    refine x_put C (C1 := "HostelBeds$Hostel") (T := TX1) (N := 12) (ci := 3) inXg1 tyX1 tyX1_ok nmX1 _ (c_Ho hj1) rfl 9 (by decide) (lw_g_mk tw_213 rfl) rfl rfl rfl rfl (Nat.le_of_ble_eq_true rfl) dX2_readWalk_18 (s_Ho_walk hj1) ?_
    refine x_aload_n C dX2_readWalk_21 rfl 0 rfl ?_
    obtain ⟨q2, hk3, h⟩ := Option.bind_eq_some_iff.mp h
    refine x_callV C (As := []) (rest := []) (lw_g_mk tw_617 rfl) (lw_g_mk tw_618 rfl) (c_In) (C1 := "HostelBeds$Input") (T := TX2) (N := 7) (ci := 4) rfl (okX2_readEnd l cy D B ek (wI q1.2 25 j1 0 (rI q1.2 11 0 0)) Y _ hk3) rfl rfl (by rw [hR9]; decide) (lw_g_mk tw_619 rfl) (lw_g_mk tw_2 rfl) (by decide) rfl (lw_g_mk tw_616 rfl) rfl (Nat.le_of_ble_eq_true rfl) dX2_readWalk_22 (by rw [hR9]; decide) ?_
    obtain ⟨hg4, h⟩ := gd_some h
    cases h
    exact hret _ _ dX2_readWalk_25 (nar_Z hg4)
  · rw [if_neg hc2] at h
    refine x_iconst C (v := 0) dX2_readWalk_11 (by decide) ?_
    cases h
    exact hret _ _ dX2_readWalk_12 (nar_Z (Or.inl rfl))
def jX2_read_160 (a15 : Int32 × Mem) (x4 : Int32) (σ5 : Mem) : Option ((Int32 × Mem) ⊕ ((Mem) ⊕ (Int32 × Mem))) := (if ¬ x4 = 0 then ((fX2_advance σ5).bind fun q6 => (some (.inl (a15.1 + (1 : Int32), q6)))) else (some (.inr (.inr (rI σ5 9 0 0, σ5)))))
def jX2_read_159 (a15 : Int32 × Mem) (t13 : Int32) (σ14 : Mem) : Option ((Int32 × Mem) ⊕ ((Mem) ⊕ (Int32 × Mem))) := (jX2_read_160 a15 t13 σ14)
def jX2_read_158 (a15 : Int32 × Mem) (σ15 : Mem) : Option ((Int32 × Mem) ⊕ ((Mem) ⊕ (Int32 × Mem))) := (jX2_read_159 a15 (0 : Int32) σ15)
def stX2_read_15 (j1 : Nat) (a15 : Int32 × Mem) : Option ((Int32 × Mem) ⊕ ((Mem) ⊕ (Int32 × Mem))) := (if (700 : Int32) ≤ a15.1 then (some (.inr (.inl a15.2))) else (if (rI a15.2 10 0 0) = 0 then (some (.inr (.inl a15.2))) else ((fX2_isWord 0 a15.2).bind fun q3 => (if q3 = 0 then ((fX2_isWord 4 a15.2).bind fun q7 => (if q7 = 0 then ((fX2_isWord 6 a15.2).bind fun q8 => (if q8 = 0 then ((fX2_isWord 7 a15.2).bind fun q9 => (if q9 = 0 then ((fX2_isWord 8 a15.2).bind fun q10 => (if q10 = 0 then ((fX2_isWord 9 a15.2).bind fun q11 => (if q11 = 0 then ((fX2_isWord 10 a15.2).bind fun q12 => (if q12 = 0 then (jX2_read_158 a15 a15.2) else ((fX2_readOffer j1 a15.2).bind fun q16 => (if q16.1 = 0 then (jX2_read_158 a15 q16.2) else (jX2_read_159 a15 (1 : Int32) q16.2))))) else ((fX2_readWalk j1 a15.2).bind fun q17 => (jX2_read_160 a15 q17.1 q17.2)))) else ((fX2_readOver j1 a15.2).bind fun q18 => (jX2_read_160 a15 q18.1 q18.2)))) else ((fX2_readAbsent j1 a15.2).bind fun q19 => (jX2_read_160 a15 q19.1 q19.2)))) else ((fX2_readCancel j1 a15.2).bind fun q20 => (jX2_read_160 a15 q20.1 q20.2)))) else ((fX2_readBook j1 a15.2).bind fun q21 => (jX2_read_160 a15 q21.1 q21.2)))) else ((fX2_readRoom j1 a15.2).bind fun q22 => (jX2_read_160 a15 q22.1 q22.2))))))
def fX2_read (j1 : Nat) (σ : Mem) : Option (Int32 × Mem) := ((fX1_clear j1 σ).bind fun q1 => ((fX2_advance (wI q1 8 0 0 (0 : Int32))).bind fun q2 => ((loop (stX2_read_15 j1) 5000 ((0 : Int32), q2)).bind fun b15 => Sum.elim (fun z15 => (some ((-1 : Int32), z15))) (fun w15 => (some w15)) b15)))
set_option maxHeartbeats 4000000 in
set_option maxRecDepth 100000 in
theorem okX2_read (l : Launch) (cy : Nat → ClassId) (D : va_G) (B : Nat) (ek : EK) (j1 : Nat) (σ : Mem) (Y : va_W) (hj1 : j1 < 12) (res : Int32 × Mem) (h : fX2_read j1 σ = some res) : CT l cy D B ek yX2_read cX2_read 4 (some .int) ({ frames := 10, cells := 0, slots := 0, locals := 205 } : Room) [.ref (B + oIn), .ref (B + oHo j1)] σ Y (some (.int res.1)) res.2 Y := by
  refine met_X (own := "HostelBeds$Input") (by decide) rfl (Nat.le_of_ble_eq_true rfl) ?_
  intro p e s m args below meth c C hrT hlk
  have hret : ∀ (pc9 : Nat) (lcs9 : List (Nat × Value)), decode cX2_read pc9 = .ok (.ireturn, 1) → narrow .int (.int res.1) = .int res.1 → X p l e ({ frames := 10, cells := 0, slots := 0, locals := 205 } : Room) s m args below meth c 4 cy D B 0 0 (MQ below (QR cy D B (some (.int res.1)) res.2 Y) args s 0 0 (aB B)) pc9 lcs9 [.int res.1] res.2 Y := fun _ _ hd hn => x_zret C hrT hlk hn hd
  generalize (MQ below (QR cy D B (some (.int res.1)) res.2 Y) args s 0 0 (aB B)) = Q at hret ⊢
  obtain ⟨R, hR9⟩ : ∃ R : Room, R = ({ frames := 10, cells := 0, slots := 0, locals := 205 } : Room) := ⟨_, rfl⟩
  rw [← hR9] at hret ⊢
  unfold fX2_read at h
  show X p l e R s m args below meth c 4 cy D B 0 0 Q 0 [(0, .ref (B + oIn)), (1, .ref (B + oHo j1))] [] σ Y
  refine x_aload_n C dX2_read_0 rfl 1 rfl ?_
  obtain ⟨q1, hk1, h⟩ := Option.bind_eq_some_iff.mp h
  refine x_callV C (As := []) (rest := []) (lw_g_mk tw_175 rfl) (lw_g_mk tw_176 rfl) (c_Ho hj1) (C1 := "HostelBeds$Hostel") (T := TX1) (N := 12) (ci := 3) rfl (okX1_clear l cy D B ek j1 σ Y hj1 _ hk1) rfl rfl (by rw [hR9]; decide) (lw_g_mk tw_177 rfl) (lw_g_mk tw_3 rfl) (by decide) rfl (lw_g_mk tw_577 rfl) rfl (Nat.le_of_ble_eq_true rfl) dX2_read_1 (by rw [hR9]; decide) ?_
  refine x_aload_n C dX2_read_4 rfl 0 rfl ?_
  refine x_iconst C (v := 0) dX2_read_5 (by decide) ?_
  refine x_put C (C1 := "HostelBeds$Input") (T := TX2) (N := 7) (ci := 4) inXg2 tyX2 tyX2_ok nmX2 _ (c_In) rfl 2 (by decide) (lw_g_mk tw_43 rfl) rfl rfl rfl rfl (Nat.le_of_ble_eq_true rfl) dX2_read_6 (s_In_at) ?_
  refine x_aload_n C dX2_read_9 rfl 0 rfl ?_
  obtain ⟨q2, hk2, h⟩ := Option.bind_eq_some_iff.mp h
  refine x_callV C (As := []) (rest := []) (lw_g_mk tw_579 rfl) (lw_g_mk tw_580 rfl) (c_In) (C1 := "HostelBeds$Input") (T := TX2) (N := 7) (ci := 4) rfl (okX2_advance l cy D B ek (wI q1 8 0 0 (0 : Int32)) Y _ hk2) rfl rfl (by rw [hR9]; decide) (lw_g_mk tw_581 rfl) (lw_g_mk tw_2 rfl) (by decide) rfl (lw_g_mk tw_578 rfl) rfl (Nat.le_of_ble_eq_true rfl) dX2_read_10 (by rw [hR9]; decide) ?_
  refine x_iconst C (v := 0) dX2_read_13 (by decide) ?_
  refine x_istore_n C [(2, .int (0 : Int32)), (0, .ref (B + oIn)), (1, .ref (B + oHo j1))] dX2_read_14 rfl (by decide) rfl ?_
  obtain ⟨b15, hk34, h⟩ := Option.bind_eq_some_iff.mp h
  refine x_sub [1, 2, 0] rfl ?_
  refine loop_run (step := stX2_read_15 j1) (P := fun (a15 : Int32 × Mem) => X p l e R s m args below meth c 4 cy D B 0 0 Q 15 [(0, .ref (B + oIn)), (1, .ref (B + oHo j1)), (2, .int a15.1)] [] a15.2 Y) (K := fun (b15 : (Mem) ⊕ (Int32 × Mem)) => Sum.elim (fun z15 => X p l e R s m args below meth c 4 cy D B 0 0 Q 179 [] [] z15 Y) (fun w15 => ∀ (pc9 : Nat) (lcs9 : List (Nat × Value)), decode cX2_read pc9 = .ok (.ireturn, 1) → narrow .int (.int w15.1) = .int w15.1 → X p l e R s m args below meth c 4 cy D B 0 0 Q pc9 lcs9 [.int w15.1] w15.2 Y) b15) ?_ 5000 ((0 : Int32), q2) b15 hk34 ?_
  · intro a15 r h hA3 hB4
    unfold stX2_read_15 at h
    refine x_iload_n C dX2_read_15 rfl 2 rfl ?_
    refine x_sipush C (v := 700) dX2_read_16 (by decide) ?_
    refine x_icmp_ge C (tgt := 179) dX2_read_19 (by decide) (fun hc5 => ?_) (fun hc5 => ?_)
    · rw [if_pos hc5] at h
      cases h
      refine x_sub [] rfl ?_
      exact hB4 (.inl a15.2) rfl
    · rw [if_neg hc5] at h
      refine x_aload_n C dX2_read_22 rfl 0 rfl ?_
      refine x_get C (C1 := "HostelBeds$Input") (T := TX2) (N := 7) (ci := 4) inXg2 _ (c_In) rfl 4 (by decide) (lw_g_mk tw_45 rfl) rfl dX2_read_23 ?_
      refine x_if_eq C (tgt := 179) dX2_read_26 (by decide) (fun hc6 => ?_) (fun hc6 => ?_)
      · rw [if_pos hc6] at h
        cases h
        refine x_sub [] rfl ?_
        exact hB4 (.inl a15.2) rfl
      · rw [if_neg hc6] at h
        refine x_aload_n C dX2_read_29 rfl 0 rfl ?_
        refine x_ldcS C (i := 0) (tx := "room") rfl dX2_read_30 ?_
        obtain ⟨q3, hk7, h⟩ := Option.bind_eq_some_iff.mp h
        refine x_callV C (As := [.ref (ek.1 0)]) (rest := []) (lw_g_mk tw_592 rfl) (lw_g_mk tw_593 rfl) (c_In) (C1 := "HostelBeds$Input") (T := TX2) (N := 7) (ci := 4) rfl (okX2_isWord l cy D B ek 0 a15.2 Y (by decide) _ hk7) rfl rfl (by rw [hR9]; decide) (lw_g_mk tw_594 rfl) (lw_g_mk tw_2 rfl) (by decide) rfl (lw_g_mk tw_591 rfl) rfl (Nat.le_of_ble_eq_true rfl) dX2_read_32 (by rw [hR9]; decide) ?_
        have hJ10 : ∀ (x4 : Int32) (σ5 : Mem) (r9 : (Int32 × Mem) ⊕ ((Mem) ⊕ (Int32 × Mem))), jX2_read_160 a15 x4 σ5 = some r9 → (∀ a2, r9 = .inl a2 → (fun (a15 : Int32 × Mem) => X p l e R s m args below meth c 4 cy D B 0 0 Q 15 [(0, .ref (B + oIn)), (1, .ref (B + oHo j1)), (2, .int a15.1)] [] a15.2 Y) a2) → (∀ b2, r9 = .inr b2 → (fun (b15 : (Mem) ⊕ (Int32 × Mem)) => Sum.elim (fun z15 => X p l e R s m args below meth c 4 cy D B 0 0 Q 179 [] [] z15 Y) (fun w15 => ∀ (pc9 : Nat) (lcs9 : List (Nat × Value)), decode cX2_read pc9 = .ok (.ireturn, 1) → narrow .int (.int w15.1) = .int w15.1 → X p l e R s m args below meth c 4 cy D B 0 0 Q pc9 lcs9 [.int w15.1] w15.2 Y) b15) b2) → X p l e R s m args below meth c 4 cy D B 0 0 Q 160 [(0, .ref (B + oIn)), (1, .ref (B + oHo j1)), (2, .int a15.1), (3, .int x4)] [] σ5 Y := by
          intro x4 σ5 r h hA3 hB4
          unfold jX2_read_160 at h
          refine x_iload_n C dX2_read_160 rfl 3 rfl ?_
          refine x_if_ne C (tgt := 169) dX2_read_161 (by decide) (fun hc8 => ?_) (fun hc8 => ?_)
          · rw [if_pos hc8] at h
            refine x_aload_n C dX2_read_169 rfl 0 rfl ?_
            obtain ⟨q6, hk9, h⟩ := Option.bind_eq_some_iff.mp h
            refine x_callV C (As := []) (rest := []) (lw_g_mk tw_579 rfl) (lw_g_mk tw_580 rfl) (c_In) (C1 := "HostelBeds$Input") (T := TX2) (N := 7) (ci := 4) rfl (okX2_advance l cy D B ek σ5 Y _ hk9) rfl rfl (by rw [hR9]; decide) (lw_g_mk tw_581 rfl) (lw_g_mk tw_2 rfl) (by decide) rfl (lw_g_mk tw_578 rfl) rfl (Nat.le_of_ble_eq_true rfl) dX2_read_170 (by rw [hR9]; decide) ?_
            refine x_iinc C (k := 2) [(2, .int (a15.1 + (1 : Int32))), (0, .ref (B + oIn)), (1, .ref (B + oHo j1)), (3, .int x4)] dX2_read_173 rfl rfl (by decide) rfl ?_
            refine x_goto C (tgt := 15) dX2_read_176 (by decide) ?_
            cases h
            refine x_sub [1, 2, 0] rfl ?_
            exact hA3 (a15.1 + (1 : Int32), q6) rfl
          · rw [if_neg hc8] at h
            refine x_aload_n C dX2_read_164 rfl 0 rfl ?_
            refine x_get C (C1 := "HostelBeds$Input") (T := TX2) (N := 7) (ci := 4) inXg2 _ (c_In) rfl 3 (by decide) (lw_g_mk tw_44 rfl) rfl dX2_read_165 ?_
            cases h
            exact hB4 (.inr (rI σ5 9 0 0, σ5)) rfl _ _ dX2_read_168 rfl
        refine x_if_eq C (tgt := 47) dX2_read_35 (by decide) (fun hc11 => ?_) (fun hc11 => ?_)
        · rw [if_pos hc11] at h
          refine x_aload_n C dX2_read_47 rfl 0 rfl ?_
          refine x_ldcS C (i := 4) (tx := "book") rfl dX2_read_48 ?_
          obtain ⟨q7, hk12, h⟩ := Option.bind_eq_some_iff.mp h
          refine x_callV C (As := [.ref (ek.1 4)]) (rest := []) (lw_g_mk tw_592 rfl) (lw_g_mk tw_593 rfl) (c_In) (C1 := "HostelBeds$Input") (T := TX2) (N := 7) (ci := 4) rfl (okX2_isWord l cy D B ek 4 a15.2 Y (by decide) _ hk12) rfl rfl (by rw [hR9]; decide) (lw_g_mk tw_594 rfl) (lw_g_mk tw_2 rfl) (by decide) rfl (lw_g_mk tw_591 rfl) rfl (Nat.le_of_ble_eq_true rfl) dX2_read_50 (by rw [hR9]; decide) ?_
          refine x_if_eq C (tgt := 65) dX2_read_53 (by decide) (fun hc13 => ?_) (fun hc13 => ?_)
          · rw [if_pos hc13] at h
            refine x_aload_n C dX2_read_65 rfl 0 rfl ?_
            refine x_ldcS C (i := 6) (tx := "cancel") rfl dX2_read_66 ?_
            obtain ⟨q8, hk14, h⟩ := Option.bind_eq_some_iff.mp h
            refine x_callV C (As := [.ref (ek.1 6)]) (rest := []) (lw_g_mk tw_592 rfl) (lw_g_mk tw_593 rfl) (c_In) (C1 := "HostelBeds$Input") (T := TX2) (N := 7) (ci := 4) rfl (okX2_isWord l cy D B ek 6 a15.2 Y (by decide) _ hk14) rfl rfl (by rw [hR9]; decide) (lw_g_mk tw_594 rfl) (lw_g_mk tw_2 rfl) (by decide) rfl (lw_g_mk tw_591 rfl) rfl (Nat.le_of_ble_eq_true rfl) dX2_read_68 (by rw [hR9]; decide) ?_
            refine x_if_eq C (tgt := 83) dX2_read_71 (by decide) (fun hc15 => ?_) (fun hc15 => ?_)
            · rw [if_pos hc15] at h
              refine x_aload_n C dX2_read_83 rfl 0 rfl ?_
              refine x_ldcS C (i := 7) (tx := "absent") rfl dX2_read_84 ?_
              obtain ⟨q9, hk16, h⟩ := Option.bind_eq_some_iff.mp h
              refine x_callV C (As := [.ref (ek.1 7)]) (rest := []) (lw_g_mk tw_592 rfl) (lw_g_mk tw_593 rfl) (c_In) (C1 := "HostelBeds$Input") (T := TX2) (N := 7) (ci := 4) rfl (okX2_isWord l cy D B ek 7 a15.2 Y (by decide) _ hk16) rfl rfl (by rw [hR9]; decide) (lw_g_mk tw_594 rfl) (lw_g_mk tw_2 rfl) (by decide) rfl (lw_g_mk tw_591 rfl) rfl (Nat.le_of_ble_eq_true rfl) dX2_read_86 (by rw [hR9]; decide) ?_
              refine x_if_eq C (tgt := 101) dX2_read_89 (by decide) (fun hc17 => ?_) (fun hc17 => ?_)
              · rw [if_pos hc17] at h
                refine x_aload_n C dX2_read_101 rfl 0 rfl ?_
                refine x_ldcS C (i := 8) (tx := "over") rfl dX2_read_102 ?_
                obtain ⟨q10, hk18, h⟩ := Option.bind_eq_some_iff.mp h
                refine x_callV C (As := [.ref (ek.1 8)]) (rest := []) (lw_g_mk tw_592 rfl) (lw_g_mk tw_593 rfl) (c_In) (C1 := "HostelBeds$Input") (T := TX2) (N := 7) (ci := 4) rfl (okX2_isWord l cy D B ek 8 a15.2 Y (by decide) _ hk18) rfl rfl (by rw [hR9]; decide) (lw_g_mk tw_594 rfl) (lw_g_mk tw_2 rfl) (by decide) rfl (lw_g_mk tw_591 rfl) rfl (Nat.le_of_ble_eq_true rfl) dX2_read_104 (by rw [hR9]; decide) ?_
                refine x_if_eq C (tgt := 119) dX2_read_107 (by decide) (fun hc19 => ?_) (fun hc19 => ?_)
                · rw [if_pos hc19] at h
                  refine x_aload_n C dX2_read_119 rfl 0 rfl ?_
                  refine x_ldcS C (i := 9) (tx := "walk") rfl dX2_read_120 ?_
                  obtain ⟨q11, hk20, h⟩ := Option.bind_eq_some_iff.mp h
                  refine x_callV C (As := [.ref (ek.1 9)]) (rest := []) (lw_g_mk tw_592 rfl) (lw_g_mk tw_593 rfl) (c_In) (C1 := "HostelBeds$Input") (T := TX2) (N := 7) (ci := 4) rfl (okX2_isWord l cy D B ek 9 a15.2 Y (by decide) _ hk20) rfl rfl (by rw [hR9]; decide) (lw_g_mk tw_594 rfl) (lw_g_mk tw_2 rfl) (by decide) rfl (lw_g_mk tw_591 rfl) rfl (Nat.le_of_ble_eq_true rfl) dX2_read_122 (by rw [hR9]; decide) ?_
                  refine x_if_eq C (tgt := 137) dX2_read_125 (by decide) (fun hc21 => ?_) (fun hc21 => ?_)
                  · rw [if_pos hc21] at h
                    refine x_aload_n C dX2_read_137 rfl 0 rfl ?_
                    refine x_ldcS C (i := 10) (tx := "offer") rfl dX2_read_138 ?_
                    obtain ⟨q12, hk22, h⟩ := Option.bind_eq_some_iff.mp h
                    refine x_callV C (As := [.ref (ek.1 10)]) (rest := []) (lw_g_mk tw_592 rfl) (lw_g_mk tw_593 rfl) (c_In) (C1 := "HostelBeds$Input") (T := TX2) (N := 7) (ci := 4) rfl (okX2_isWord l cy D B ek 10 a15.2 Y (by decide) _ hk22) rfl rfl (by rw [hR9]; decide) (lw_g_mk tw_594 rfl) (lw_g_mk tw_2 rfl) (by decide) rfl (lw_g_mk tw_591 rfl) rfl (Nat.le_of_ble_eq_true rfl) dX2_read_140 (by rw [hR9]; decide) ?_
                    have hJ23 : ∀ (t13 : Int32) (σ14 : Mem) (r9 : (Int32 × Mem) ⊕ ((Mem) ⊕ (Int32 × Mem))), jX2_read_159 a15 t13 σ14 = some r9 → (∀ a2, r9 = .inl a2 → (fun (a15 : Int32 × Mem) => X p l e R s m args below meth c 4 cy D B 0 0 Q 15 [(0, .ref (B + oIn)), (1, .ref (B + oHo j1)), (2, .int a15.1)] [] a15.2 Y) a2) → (∀ b2, r9 = .inr b2 → (fun (b15 : (Mem) ⊕ (Int32 × Mem)) => Sum.elim (fun z15 => X p l e R s m args below meth c 4 cy D B 0 0 Q 179 [] [] z15 Y) (fun w15 => ∀ (pc9 : Nat) (lcs9 : List (Nat × Value)), decode cX2_read pc9 = .ok (.ireturn, 1) → narrow .int (.int w15.1) = .int w15.1 → X p l e R s m args below meth c 4 cy D B 0 0 Q pc9 lcs9 [.int w15.1] w15.2 Y) b15) b2) → X p l e R s m args below meth c 4 cy D B 0 0 Q 159 [(0, .ref (B + oIn)), (1, .ref (B + oHo j1)), (2, .int a15.1)] [.int t13] σ14 Y := by
                      intro t13 σ14 r h hA3 hB4
                      unfold jX2_read_159 at h
                      refine x_istore_n C [(3, .int t13), (0, .ref (B + oIn)), (1, .ref (B + oHo j1)), (2, .int a15.1)] dX2_read_159 rfl (by decide) rfl ?_
                      refine x_sub [1, 2, 3, 0] rfl ?_
                      exact hJ10 t13 σ14 _ h hA3 hB4
                    have hJ24 : ∀ (σ15 : Mem) (r9 : (Int32 × Mem) ⊕ ((Mem) ⊕ (Int32 × Mem))), jX2_read_158 a15 σ15 = some r9 → (∀ a2, r9 = .inl a2 → (fun (a15 : Int32 × Mem) => X p l e R s m args below meth c 4 cy D B 0 0 Q 15 [(0, .ref (B + oIn)), (1, .ref (B + oHo j1)), (2, .int a15.1)] [] a15.2 Y) a2) → (∀ b2, r9 = .inr b2 → (fun (b15 : (Mem) ⊕ (Int32 × Mem)) => Sum.elim (fun z15 => X p l e R s m args below meth c 4 cy D B 0 0 Q 179 [] [] z15 Y) (fun w15 => ∀ (pc9 : Nat) (lcs9 : List (Nat × Value)), decode cX2_read pc9 = .ok (.ireturn, 1) → narrow .int (.int w15.1) = .int w15.1 → X p l e R s m args below meth c 4 cy D B 0 0 Q pc9 lcs9 [.int w15.1] w15.2 Y) b15) b2) → X p l e R s m args below meth c 4 cy D B 0 0 Q 158 [(0, .ref (B + oIn)), (1, .ref (B + oHo j1)), (2, .int a15.1)] [] σ15 Y := by
                      intro σ15 r h hA3 hB4
                      unfold jX2_read_158 at h
                      refine x_iconst C (v := 0) dX2_read_158 (by decide) ?_
                      exact hJ23 (0 : Int32) σ15 _ h hA3 hB4
                    refine x_if_eq C (tgt := 158) dX2_read_143 (by decide) (fun hc25 => ?_) (fun hc25 => ?_)
                    · rw [if_pos hc25] at h
                      exact hJ24 a15.2 _ h hA3 hB4
                    · rw [if_neg hc25] at h
                      refine x_aload_n C dX2_read_146 rfl 0 rfl ?_
                      refine x_aload_n C dX2_read_147 rfl 1 rfl ?_
                      obtain ⟨q16, hk26, h⟩ := Option.bind_eq_some_iff.mp h
                      refine x_callV C (As := [.ref (B + oHo j1)]) (rest := []) (lw_g_mk tw_699 rfl) (lw_g_mk tw_700 rfl) (c_In) (C1 := "HostelBeds$Input") (T := TX2) (N := 7) (ci := 4) rfl (okX2_readOffer l cy D B ek j1 a15.2 Y hj1 _ hk26) rfl rfl (by rw [hR9]; decide) (lw_g_mk tw_701 rfl) (lw_g_mk tw_2 rfl) (by decide) rfl (lw_g_mk tw_698 rfl) rfl (Nat.le_of_ble_eq_true rfl) dX2_read_148 (by rw [hR9]; decide) ?_
                      refine x_if_eq C (tgt := 158) dX2_read_151 (by decide) (fun hc27 => ?_) (fun hc27 => ?_)
                      · rw [if_pos hc27] at h
                        exact hJ24 q16.2 _ h hA3 hB4
                      · rw [if_neg hc27] at h
                        refine x_iconst C (v := 1) dX2_read_154 (by decide) ?_
                        refine x_goto C (tgt := 159) dX2_read_155 (by decide) ?_
                        exact hJ23 (1 : Int32) q16.2 _ h hA3 hB4
                  · rw [if_neg hc21] at h
                    refine x_aload_n C dX2_read_128 rfl 0 rfl ?_
                    refine x_aload_n C dX2_read_129 rfl 1 rfl ?_
                    obtain ⟨q17, hk28, h⟩ := Option.bind_eq_some_iff.mp h
                    refine x_callV C (As := [.ref (B + oHo j1)]) (rest := []) (lw_g_mk tw_694 rfl) (lw_g_mk tw_695 rfl) (c_In) (C1 := "HostelBeds$Input") (T := TX2) (N := 7) (ci := 4) rfl (okX2_readWalk l cy D B ek j1 a15.2 Y hj1 _ hk28) rfl rfl (by rw [hR9]; decide) (lw_g_mk tw_696 rfl) (lw_g_mk tw_2 rfl) (by decide) rfl (lw_g_mk tw_693 rfl) rfl (Nat.le_of_ble_eq_true rfl) dX2_read_130 (by rw [hR9]; decide) ?_
                    refine x_istore_n C [(3, .int q17.1), (0, .ref (B + oIn)), (1, .ref (B + oHo j1)), (2, .int a15.1)] dX2_read_133 rfl (by decide) rfl ?_
                    refine x_goto C (tgt := 160) dX2_read_134 (by decide) ?_
                    refine x_sub [1, 2, 3, 0] rfl ?_
                    exact hJ10 q17.1 q17.2 _ h hA3 hB4
                · rw [if_neg hc19] at h
                  refine x_aload_n C dX2_read_110 rfl 0 rfl ?_
                  refine x_aload_n C dX2_read_111 rfl 1 rfl ?_
                  obtain ⟨q18, hk29, h⟩ := Option.bind_eq_some_iff.mp h
                  refine x_callV C (As := [.ref (B + oHo j1)]) (rest := []) (lw_g_mk tw_689 rfl) (lw_g_mk tw_690 rfl) (c_In) (C1 := "HostelBeds$Input") (T := TX2) (N := 7) (ci := 4) rfl (okX2_readOver l cy D B ek j1 a15.2 Y hj1 _ hk29) rfl rfl (by rw [hR9]; decide) (lw_g_mk tw_691 rfl) (lw_g_mk tw_2 rfl) (by decide) rfl (lw_g_mk tw_688 rfl) rfl (Nat.le_of_ble_eq_true rfl) dX2_read_112 (by rw [hR9]; decide) ?_
                  refine x_istore_n C [(3, .int q18.1), (0, .ref (B + oIn)), (1, .ref (B + oHo j1)), (2, .int a15.1)] dX2_read_115 rfl (by decide) rfl ?_
                  refine x_goto C (tgt := 160) dX2_read_116 (by decide) ?_
                  refine x_sub [1, 2, 3, 0] rfl ?_
                  exact hJ10 q18.1 q18.2 _ h hA3 hB4
              · rw [if_neg hc17] at h
                refine x_aload_n C dX2_read_92 rfl 0 rfl ?_
                refine x_aload_n C dX2_read_93 rfl 1 rfl ?_
                obtain ⟨q19, hk30, h⟩ := Option.bind_eq_some_iff.mp h
                refine x_callV C (As := [.ref (B + oHo j1)]) (rest := []) (lw_g_mk tw_684 rfl) (lw_g_mk tw_685 rfl) (c_In) (C1 := "HostelBeds$Input") (T := TX2) (N := 7) (ci := 4) rfl (okX2_readAbsent l cy D B ek j1 a15.2 Y hj1 _ hk30) rfl rfl (by rw [hR9]; decide) (lw_g_mk tw_686 rfl) (lw_g_mk tw_2 rfl) (by decide) rfl (lw_g_mk tw_683 rfl) rfl (Nat.le_of_ble_eq_true rfl) dX2_read_94 (by rw [hR9]; decide) ?_
                refine x_istore_n C [(3, .int q19.1), (0, .ref (B + oIn)), (1, .ref (B + oHo j1)), (2, .int a15.1)] dX2_read_97 rfl (by decide) rfl ?_
                refine x_goto C (tgt := 160) dX2_read_98 (by decide) ?_
                refine x_sub [1, 2, 3, 0] rfl ?_
                exact hJ10 q19.1 q19.2 _ h hA3 hB4
            · rw [if_neg hc15] at h
              refine x_aload_n C dX2_read_74 rfl 0 rfl ?_
              refine x_aload_n C dX2_read_75 rfl 1 rfl ?_
              obtain ⟨q20, hk31, h⟩ := Option.bind_eq_some_iff.mp h
              refine x_callV C (As := [.ref (B + oHo j1)]) (rest := []) (lw_g_mk tw_667 rfl) (lw_g_mk tw_668 rfl) (c_In) (C1 := "HostelBeds$Input") (T := TX2) (N := 7) (ci := 4) rfl (okX2_readCancel l cy D B ek j1 a15.2 Y hj1 _ hk31) rfl rfl (by rw [hR9]; decide) (lw_g_mk tw_669 rfl) (lw_g_mk tw_2 rfl) (by decide) rfl (lw_g_mk tw_666 rfl) rfl (Nat.le_of_ble_eq_true rfl) dX2_read_76 (by rw [hR9]; decide) ?_
              refine x_istore_n C [(3, .int q20.1), (0, .ref (B + oIn)), (1, .ref (B + oHo j1)), (2, .int a15.1)] dX2_read_79 rfl (by decide) rfl ?_
              refine x_goto C (tgt := 160) dX2_read_80 (by decide) ?_
              refine x_sub [1, 2, 3, 0] rfl ?_
              exact hJ10 q20.1 q20.2 _ h hA3 hB4
          · rw [if_neg hc13] at h
            refine x_aload_n C dX2_read_56 rfl 0 rfl ?_
            refine x_aload_n C dX2_read_57 rfl 1 rfl ?_
            obtain ⟨q21, hk32, h⟩ := Option.bind_eq_some_iff.mp h
            refine x_callV C (As := [.ref (B + oHo j1)]) (rest := []) (lw_g_mk tw_622 rfl) (lw_g_mk tw_623 rfl) (c_In) (C1 := "HostelBeds$Input") (T := TX2) (N := 7) (ci := 4) rfl (okX2_readBook l cy D B ek j1 a15.2 Y hj1 _ hk32) rfl rfl (by rw [hR9]; decide) (lw_g_mk tw_624 rfl) (lw_g_mk tw_2 rfl) (by decide) rfl (lw_g_mk tw_621 rfl) rfl (Nat.le_of_ble_eq_true rfl) dX2_read_58 (by rw [hR9]; decide) ?_
            refine x_istore_n C [(3, .int q21.1), (0, .ref (B + oIn)), (1, .ref (B + oHo j1)), (2, .int a15.1)] dX2_read_61 rfl (by decide) rfl ?_
            refine x_goto C (tgt := 160) dX2_read_62 (by decide) ?_
            refine x_sub [1, 2, 3, 0] rfl ?_
            exact hJ10 q21.1 q21.2 _ h hA3 hB4
        · rw [if_neg hc11] at h
          refine x_aload_n C dX2_read_38 rfl 0 rfl ?_
          refine x_aload_n C dX2_read_39 rfl 1 rfl ?_
          obtain ⟨q22, hk33, h⟩ := Option.bind_eq_some_iff.mp h
          refine x_callV C (As := [.ref (B + oHo j1)]) (rest := []) (lw_g_mk tw_598 rfl) (lw_g_mk tw_599 rfl) (c_In) (C1 := "HostelBeds$Input") (T := TX2) (N := 7) (ci := 4) rfl (okX2_readRoom l cy D B ek j1 a15.2 Y hj1 _ hk33) rfl rfl (by rw [hR9]; decide) (lw_g_mk tw_600 rfl) (lw_g_mk tw_2 rfl) (by decide) rfl (lw_g_mk tw_597 rfl) rfl (Nat.le_of_ble_eq_true rfl) dX2_read_40 (by rw [hR9]; decide) ?_
          refine x_istore_n C [(3, .int q22.1), (0, .ref (B + oIn)), (1, .ref (B + oHo j1)), (2, .int a15.1)] dX2_read_43 rfl (by decide) rfl ?_
          refine x_goto C (tgt := 160) dX2_read_44 (by decide) ?_
          refine x_sub [1, 2, 3, 0] rfl ?_
          exact hJ10 q22.1 q22.2 _ h hA3 hB4
  · rcases b15 with z15 | w15
    · rw [Sum.elim_inl] at h
      show X p l e R s m args below meth c 4 cy D B 0 0 Q 179 [] [] z15 Y
      refine x_iconst C (v := -1) dX2_read_179 (by decide) ?_
      cases h
      exact hret _ _ dX2_read_180 rfl
    · rw [Sum.elim_inr] at h
      show ∀ (pc9 : Nat) (lcs9 : List (Nat × Value)), decode cX2_read pc9 = .ok (.ireturn, 1) → narrow .int (.int w15.1) = .int w15.1 → X p l e R s m args below meth c 4 cy D B 0 0 Q pc9 lcs9 [.int w15.1] w15.2 Y
      cases h
      exact hret
