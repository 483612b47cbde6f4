def stT_text_30 (xs : (Nat → Int32)) (L : Nat) (a30 : Int32 × Nat × (Nat → Int32) × Int32) : Option ((Int32 × Nat × (Nat → Int32) × Int32) ⊕ (Nat × (Nat → Int32) × Int32)) := ((fL_roomsOf xs L).bind fun q2 => (if q2 ≤ a30.1 then (some (.inr (a30.2.1, a30.2.2.1, a30.2.2.2))) else ((fT_sbS 11 a30.2.1 a30.2.2.1 a30.2.2.2).bind fun q3 => ((fT_sbC ((((97 : Int32) + a30.1).toUInt32 % 65536).toInt32) q3.1 q3.2.1 q3.2.2).bind fun q4 => ((fT_sbC (32 : Int32) q4.1 q4.2.1 q4.2.2).bind fun q5 => ((fL_room xs L a30.1 (0 : Int32)).bind fun q6 => (gd (inb q6 3) ((fT_sbS (q6.toNatClampNeg + 1) q5.1 q5.2.1 q5.2.2).bind fun q7 => ((fT_sbC (32 : Int32) q7.1 q7.2.1 q7.2.2).bind fun q8 => ((fL_room xs L a30.1 (1 : Int32)).bind fun q9 => ((fT_sbI q9 q8.1 q8.2.1 q8.2.2).bind fun q10 => ((fT_sbC (32 : Int32) q10.1 q10.2.1 q10.2.2).bind fun q11 => ((fL_room xs L a30.1 (2 : Int32)).bind fun q12 => ((fT_sbI q12 q11.1 q11.2.1 q11.2.2).bind fun q13 => ((fT_sbC (32 : Int32) q13.1 q13.2.1 q13.2.2).bind fun q14 => ((fL_room xs L a30.1 (3 : Int32)).bind fun q15 => ((fT_sbI q15 q14.1 q14.2.1 q14.2.2).bind fun q16 => ((fT_sbC (59 : Int32) q16.1 q16.2.1 q16.2.2).bind fun q17 => (some (.inl (a30.1 + (1 : Int32), q17.1, q17.2.1, q17.2.2)))))))))))))))))))))
def stT_text_209 (xs : (Nat → Int32)) (L : Nat) (a183 : Int32 × Nat × (Nat → Int32) × Int32) (a209 : Int32 × Nat × (Nat → Int32) × Int32) : Option ((Int32 × Nat × (Nat → Int32) × Int32) ⊕ (Nat × (Nat → Int32) × Int32)) := (if (6 : Int32) ≤ a209.1 then (some (.inr (a209.2.1, a209.2.2.1, a209.2.2.2))) else ((fT_sbC (32 : Int32) a209.2.1 a209.2.2.1 a209.2.2.2).bind fun q34 => ((fL_booking xs L a183.1 a209.1).bind fun q35 => ((fT_sbI q35 q34.1 q34.2.1 q34.2.2).bind fun q36 => (some (.inl (a209.1 + (1 : Int32), q36.1, q36.2.1, q36.2.2)))))))
def stT_text_183 (xs : (Nat → Int32)) (L : Nat) (a183 : Int32 × Nat × (Nat → Int32) × Int32) : Option ((Int32 × Nat × (Nat → Int32) × Int32) ⊕ (Nat × (Nat → Int32) × Int32)) := ((fL_bookingsOf xs L).bind fun q31 => (if q31 ≤ a183.1 then (some (.inr (a183.2.1, a183.2.2.1, a183.2.2.2))) else ((fT_sbS 15 a183.2.1 a183.2.2.1 a183.2.2.2).bind fun q32 => ((fT_sbC ((((97 : Int32) + a183.1).toUInt32 % 65536).toInt32) q32.1 q32.2.1 q32.2.2).bind fun q33 => ((loop (stT_text_209 xs L a183) 8 ((0 : Int32), q33.1, q33.2.1, q33.2.2)).bind fun b209 => ((fL_booking xs L a183.1 (6 : Int32)).bind fun q37 => (if ¬ q37 = (1 : Int32) then ((fT_sbS 17 b209.1 b209.2.1 b209.2.2).bind fun q38 => (some (.inl (a183.1 + (1 : Int32), q38.1, q38.2.1, q38.2.2)))) else ((fT_sbS 16 b209.1 b209.2.1 b209.2.2).bind fun q39 => (some (.inl (a183.1 + (1 : Int32), q39.1, q39.2.1, q39.2.2)))))))))))
def fT_text (xs : Nat → Int32) (L : Nat) : Option ((Nat × (Nat → Int32))) := ((fT_sbIn).bind fun q1 => ((loop (stT_text_30 xs L) 6 ((0 : Int32), q1.1, q1.2, (0 : Int32))).bind fun b30 => ((fT_sbS 12 b30.1 b30.2.1 b30.2.2).bind fun q18 => ((fL_setting xs L (0 : Int32)).bind fun q19 => ((fT_sbI q19 q18.1 q18.2.1 q18.2.2).bind fun q20 => ((fT_sbS 13 q20.1 q20.2.1 q20.2.2).bind fun q21 => ((fL_setting xs L (1 : Int32)).bind fun q22 => ((fT_sbI q22 q21.1 q21.2.1 q21.2.2).bind fun q23 => ((fT_sbS 14 q23.1 q23.2.1 q23.2.2).bind fun q24 => ((fL_setting xs L (2 : Int32)).bind fun q25 => ((fT_sbI q25 q24.1 q24.2.1 q24.2.2).bind fun q26 => ((fT_sbC (32 : Int32) q26.1 q26.2.1 q26.2.2).bind fun q27 => ((fL_setting xs L (3 : Int32)).bind fun q28 => ((fT_sbI q28 q27.1 q27.2.1 q27.2.2).bind fun q29 => ((fT_sbC (59 : Int32) q29.1 q29.2.1 q29.2.2).bind fun q30 => ((loop (stT_text_183 xs L) 9 ((0 : Int32), q30.1, q30.2.1, q30.2.2)).bind fun b183 => ((fT_sbStr b183.1 b183.2.1 b183.2.2).bind fun q40 => (some (q40.1, q40.2)))))))))))))))))))
set_option maxHeartbeats 4000000 in
set_option maxRecDepth 100000 in
theorem okL_text (l : Launch) (cy : Nat → ClassId) (D : va_G) (B : Nat) (ek : EK) (xs : Nat → Int32) (L : Nat) (hxs : xs = sX ek) (hLs : L = sL ek) (σ : Mem) (Y : va_W) (res : (Nat × (Nat → Int32))) (h : fT_text xs L = some res) : CTE l cy D B ek yL_text cL_text 5 (some (.object "java/lang/String")) ({ frames := 11, cells := 251, slots := 496011, locals := 234 } : Room) 251 496011 [.ref (sA ek)] σ Y (fun v9 σ9 Y9 => ∃ aZ aN : Nat, v9 = some (.ref aZ) ∧ σ9 = σ ∧ Y9 = Y ++ [cNS aZ (.ref aN), cBy cy aN res.1 res.2]) := by
  refine met_XE (own := "HostelBedsLaw") (by decide) rfl (Nat.le_of_ble_eq_true rfl) ?_
  intro p e s m args below meth c C hrT hlk
  have hret : ∀ (aZ aN : Nat) (cells9 slots9 pc9 : Nat) (lcs9 : List (Nat × Value)), decode cL_text pc9 = .ok (.areturn, 1) → cells9 ≤ 251 → slots9 ≤ 496011 → X p l e ({ frames := 11, cells := 251, slots := 496011, locals := 234 } : Room) s m args below meth c 5 cy D B cells9 slots9 (MQ below (QE cy D B (fun v9 σ9 Y9 => ∃ aZ aN : Nat, v9 = some (.ref aZ) ∧ σ9 = σ ∧ Y9 = Y ++ [cNS aZ (.ref aN), cBy cy aN res.1 res.2])) args s 251 496011 (aB B)) pc9 lcs9 [.ref aZ] σ (Y ++ [cNS aZ (.ref aN), cBy cy aN res.1 res.2]) := fun aZ aN cells9 slots9 pc9 lcs9 hd h1 h2 => x_aretE C hrT hlk (Or.inl ⟨_, rfl⟩) hd h1 h2 ⟨aZ, aN, rfl, rfl, rfl⟩
  generalize (MQ below (QE cy D B (fun v9 σ9 Y9 => ∃ aZ aN : Nat, v9 = some (.ref aZ) ∧ σ9 = σ ∧ Y9 = Y ++ [cNS aZ (.ref aN), cBy cy aN res.1 res.2])) args s 251 496011 (aB B)) = Q at hret ⊢
  obtain ⟨R, hR9⟩ : ∃ R : Room, R = ({ frames := 11, cells := 251, slots := 496011, locals := 234 } : Room) := ⟨_, rfl⟩
  rw [← hR9] at hret ⊢
  have hRc : R.cells = 251 := by rw [hR9]
  have hRs : R.slots = 496011 := by rw [hR9]
  unfold fT_text at h
  show X p l e R s m args below meth c 5 cy D B 0 0 Q 0 [(0, .ref (sA ek))] [] σ Y
  refine x_iconst C (v := 3) dL_text_0 (by decide) ?_
  refine x_newS C (lw_g_mk tw_776 rfl) (by rw [hRc]; omega) (by rw [hRs]; omega) dL_text_1 (fun aK => ?_)
  refine x_dup C dL_text_4 rfl ?_
  refine x_iconst C (v := 0) dL_text_5 (by decide) ?_
  refine x_ldcW C (i := 1) (tx := "mixed") (by decide) dL_text_6 ?_
  refine x_astS C _ (i9 := 1) (by decide) (wl_ex pu_0) (by decide : inb (0 : Int32) 3) dL_text_8 (wl_exs ps_0) ?_
  refine x_dup C dL_text_9 rfl ?_
  refine x_iconst C (v := 1) dL_text_10 (by decide) ?_
  refine x_ldcW C (i := 2) (tx := "women") (by decide) dL_text_11 ?_
  refine x_astS C _ (i9 := 2) (by decide) (wl_ex pu_0) (by decide : inb (1 : Int32) 3) dL_text_13 (wl_exs ps_0) ?_
  refine x_dup C dL_text_14 rfl ?_
  refine x_iconst C (v := 2) dL_text_15 (by decide) ?_
  refine x_ldcW C (i := 3) (tx := "men") (by decide) dL_text_16 ?_
  refine x_astS C _ (i9 := 3) (by decide) (wl_ex pu_0) (by decide : inb (2 : Int32) 3) dL_text_18 (wl_exs ps_0) ?_
  refine x_astore_n C [(1, .ref aK), (0, .ref (sA ek))] dL_text_19 rfl (by decide) rfl ?_
  have ekf := ksf_up (ek := ek)
  rw [ekf]
  obtain ⟨Y1, hY1⟩ : ∃ Y1, Y1 = Y ++ [cKs cy aK (ksf ek)] := ⟨_, rfl⟩
  have hKS : Y1[Y.length]? = some (cKs cy aK (ksf ek)) := by rw [hY1]; exact pu_0
  rw [← hY1]
  refine x_new C (C1 := "java/lang/StringBuilder") (T := TJ4) (N := 4) (ci := 1) (fs := [.null, .int 0, .int 0, .int 0]) inJg4 tyJ4 tyJ4_ok (lw_g_mk tw_781 rfl) (lw_g_mk tw_782 rfl) (lw_g_mk tw_12 rfl) rfl (by decide +kernel) (by rw [hRc]; omega) (by rw [hRs]; omega) dL_text_20 (fun aS => ?_)
  refine x_dup C dL_text_23 rfl ?_
  obtain ⟨q1, hk1, h⟩ := Option.bind_eq_some_iff.mp h
  refine x_callIE C (As := []) (rest := [.ref aS]) (lw_g_mk tw_784 rfl) rfl (okT_sbIn l cy D B ek _ σ Y1 _ hk1) rfl rfl (by rw [hR9]; decide) (lw_g_mk tw_785 rfl) (lw_g_mk tw_12 rfl) (by decide) rfl (lw_g_mk tw_783 rfl) rfl (Nat.le_of_ble_eq_true rfl) dL_text_24 ⟨by rw [hRc]; omega, by rw [hRs]; omega⟩ (fun v9 σ9 Y9 hp9 => ?_)
  obtain ⟨aV, e7, e8, e9⟩ := hp9
  rw [e7, e8, e9]
  refine x_astore_n C [(2, .ref aS), (1, .ref aK), (0, .ref (sA ek))] dL_text_27 rfl (by decide) rfl ?_
  refine x_iconst C (v := 0) dL_text_28 (by decide) ?_
  refine x_istore_n C [(3, .int (0 : Int32)), (2, .ref aS), (1, .ref aK), (0, .ref (sA ek))] dL_text_29 rfl (by decide) rfl ?_
  obtain ⟨b30, hk22, h⟩ := Option.bind_eq_some_iff.mp h
  refine x_sub [3, 2, 1, 0] rfl ?_
  refine x_widen (cells2 := ((((0 + 1) + 1) + 1) + (6 - 6) * 11)) (slots2 := ((((0 + 3) + 4) + 2000) + (6 - 6) * 22000)) (by omega) (by omega) ?_
  refine loop_runN (N := 6) (step := stT_text_30 xs L) (P := fun (n30 : Nat) (a30 : Int32 × Nat × (Nat → Int32) × Int32) => ∀ aV : Nat, X p l e R s m args below meth c 5 cy D B ((((0 + 1) + 1) + 1) + (6 - n30) * 11) ((((0 + 3) + 4) + 2000) + (6 - n30) * 22000) Q 30 [(0, .ref (sA ek)), (1, .ref aK), (2, .ref aS), (3, .int a30.1)] [] σ (Y1 ++ [cSB aS aV a30.2.2.2, cBy cy aV a30.2.1 a30.2.2.1])) (K := fun (b30 : Nat × (Nat → Int32) × Int32) => ∀ aV : Nat, X p l e R s m args below meth c 5 cy D B ((((0 + 1) + 1) + 1) + 66) ((((0 + 3) + 4) + 2000) + 132000) Q 122 [(0, .ref (sA ek)), (2, .ref aS)] [] σ (Y1 ++ [cSB aS aV b30.2.2, cBy cy aV b30.1 b30.2.1])) ?_ 6 ((0 : Int32), q1.1, q1.2, (0 : Int32)) b30 (Nat.le_refl _) hk22 ?_ aV
  · intro n30 a30 r hn30 h hA2 hB3 aV
    unfold stT_text_30 at h
    refine x_iload_n C dL_text_30 rfl 3 rfl ?_
    refine x_aload_n C dL_text_31 rfl 0 rfl ?_
    obtain ⟨q2, hk4, h⟩ := Option.bind_eq_some_iff.mp h
    refine x_callS C (As := [.ref (sA ek)]) (rest := [.int a30.1]) (lw_g_mk tw_761 rfl) (okL_roomsOf l cy D B ek xs L hxs hLs σ (Y1 ++ [cSB aS aV a30.2.2.2, cBy cy aV a30.2.1 a30.2.2.1]) _ hk4) rfl rfl (by rw [hR9]; decide) (lw_g_mk tw_762 rfl) (lw_g_mk tw_0 rfl) (by decide) rfl (lw_g_mk tw_760 rfl) rfl (Nat.le_of_ble_eq_true rfl) dL_text_32 ⟨by rw [hRc]; omega, by rw [hRs]; omega⟩ ?_
    refine x_icmp_ge C (tgt := 122) dL_text_35 (by decide) (fun hc5 => ?_) (fun hc5 => ?_)
    · rw [if_pos hc5] at h
      cases h
      refine x_widen (cells2 := ((((0 + 1) + 1) + 1) + 66)) (slots2 := ((((0 + 3) + 4) + 2000) + 132000)) (by omega) (by omega) ?_
      refine x_sub [0, 2] rfl ?_
      exact hB3 (a30.2.1, a30.2.2.1, a30.2.2.2) rfl aV
    · rw [if_neg hc5] at h
      refine x_aload_n C dL_text_38 rfl 2 rfl ?_
      refine x_ldcW C (i := 11) (tx := "room ") (by decide) dL_text_39 ?_
      obtain ⟨q3, hk6, h⟩ := Option.bind_eq_some_iff.mp h
      refine x_callVE C (As := [.ref (ek.1 11)]) (rest := []) (lw_g_mk tw_813 rfl) (lw_g_mk tw_814 rfl) (wl_ex pu_0) (C1 := "java/lang/StringBuilder") (T := TJ4) (N := 4) (ci := 1) rfl (okT_sbS l cy D B ek _ _ 11 a30.2.1 a30.2.2.1 a30.2.2.2 σ Y1 (by decide) _ hk6) rfl rfl (by rw [hR9]; decide) (lw_g_mk tw_815 rfl) (lw_g_mk tw_12 rfl) (by decide) rfl (lw_g_mk tw_812 rfl) rfl (Nat.le_of_ble_eq_true rfl) dL_text_41 ⟨by rw [hRc]; omega, by rw [hRs]; omega⟩ (fun v9 σ9 Y9 hp9 => ?_)
      obtain ⟨aV, e7, e8, e9⟩ := hp9
      rw [e7, e8, e9]
      refine x_bipush C (v := 97) dL_text_44 (by decide) ?_
      refine x_iload_n C dL_text_46 rfl 3 rfl ?_
      refine x_iadd C dL_text_47 ?_
      refine x_i2c C dL_text_48 ?_
      obtain ⟨q4, hk7, h⟩ := Option.bind_eq_some_iff.mp h
      refine x_callVE C (As := [.int ((((97 : Int32) + a30.1).toUInt32 % 65536).toInt32)]) (rest := []) (lw_g_mk tw_910 rfl) (lw_g_mk tw_911 rfl) (wl_ex pu_0) (C1 := "java/lang/StringBuilder") (T := TJ4) (N := 4) (ci := 1) rfl (okT_sbC l cy D B ek _ _ ((((97 : Int32) + a30.1).toUInt32 % 65536).toInt32) q3.1 q3.2.1 q3.2.2 σ Y1 _ hk7) rfl rfl (by rw [hR9]; decide) (lw_g_mk tw_912 rfl) (lw_g_mk tw_12 rfl) (by decide) rfl (lw_g_mk tw_909 rfl) rfl (Nat.le_of_ble_eq_true rfl) dL_text_49 ⟨by rw [hRc]; omega, by rw [hRs]; omega⟩ (fun v9 σ9 Y9 hp9 => ?_)
      obtain ⟨aV, e7, e8, e9⟩ := hp9
      rw [e7, e8, e9]
      refine x_bipush C (v := 32) dL_text_52 (by decide) ?_
      obtain ⟨q5, hk8, h⟩ := Option.bind_eq_some_iff.mp h
      refine x_callVE C (As := [.int (32 : Int32)]) (rest := []) (lw_g_mk tw_910 rfl) (lw_g_mk tw_911 rfl) (wl_ex pu_0) (C1 := "java/lang/StringBuilder") (T := TJ4) (N := 4) (ci := 1) rfl (okT_sbC l cy D B ek _ _ (32 : Int32) q4.1 q4.2.1 q4.2.2 σ Y1 _ hk8) rfl rfl (by rw [hR9]; decide) (lw_g_mk tw_912 rfl) (lw_g_mk tw_12 rfl) (by decide) rfl (lw_g_mk tw_909 rfl) rfl (Nat.le_of_ble_eq_true rfl) dL_text_54 ⟨by rw [hRc]; omega, by rw [hRs]; omega⟩ (fun v9 σ9 Y9 hp9 => ?_)
      obtain ⟨aV, e7, e8, e9⟩ := hp9
      rw [e7, e8, e9]
      refine x_aload_n C dL_text_57 rfl 1 rfl ?_
      refine x_aload_n C dL_text_58 rfl 0 rfl ?_
      refine x_iload_n C dL_text_59 rfl 3 rfl ?_
      refine x_iconst C (v := 0) dL_text_60 (by decide) ?_
      obtain ⟨q6, hk9, h⟩ := Option.bind_eq_some_iff.mp h
      refine x_callS C (As := [.ref (sA ek), .int a30.1, .int (0 : Int32)]) (rest := [.ref aK, .ref aS]) (lw_g_mk tw_764 rfl) (okL_room l cy D B ek xs L hxs hLs a30.1 (0 : Int32) σ (Y1 ++ [cSB aS aV q5.2.2, cBy cy aV q5.1 q5.2.1]) _ hk9) rfl rfl (by rw [hR9]; decide) (lw_g_mk tw_765 rfl) (lw_g_mk tw_0 rfl) (by decide) rfl (lw_g_mk tw_763 rfl) rfl (Nat.le_of_ble_eq_true rfl) dL_text_61 ⟨by rw [hRc]; omega, by rw [hRs]; omega⟩ ?_
      obtain ⟨hg10, h⟩ := gd_some h
      refine x_aldq C _ 10 (C1 := "java/lang/String") (wl_ex (ap_some hKS)) rfl hg10 (if_pos (inb_lt hg10)) dL_text_64 ?_
      obtain ⟨q7, hk11, h⟩ := Option.bind_eq_some_iff.mp h
      refine x_callVE C (As := [.ref (ek.1 (q6.toNatClampNeg + 1))]) (rest := []) (lw_g_mk tw_813 rfl) (lw_g_mk tw_814 rfl) (wl_ex pu_0) (C1 := "java/lang/StringBuilder") (T := TJ4) (N := 4) (ci := 1) rfl (okT_sbS l cy D B ek _ _ (q6.toNatClampNeg + 1) q5.1 q5.2.1 q5.2.2 σ Y1 (ks_lt hg10) _ hk11) rfl rfl (by rw [hR9]; decide) (lw_g_mk tw_815 rfl) (lw_g_mk tw_12 rfl) (by decide) rfl (lw_g_mk tw_812 rfl) rfl (Nat.le_of_ble_eq_true rfl) dL_text_65 ⟨by rw [hRc]; omega, by rw [hRs]; omega⟩ (fun v9 σ9 Y9 hp9 => ?_)
      obtain ⟨aV, e7, e8, e9⟩ := hp9
      rw [e7, e8, e9]
      refine x_bipush C (v := 32) dL_text_68 (by decide) ?_
      obtain ⟨q8, hk12, h⟩ := Option.bind_eq_some_iff.mp h
      refine x_callVE C (As := [.int (32 : Int32)]) (rest := []) (lw_g_mk tw_910 rfl) (lw_g_mk tw_911 rfl) (wl_ex pu_0) (C1 := "java/lang/StringBuilder") (T := TJ4) (N := 4) (ci := 1) rfl (okT_sbC l cy D B ek _ _ (32 : Int32) q7.1 q7.2.1 q7.2.2 σ Y1 _ hk12) rfl rfl (by rw [hR9]; decide) (lw_g_mk tw_912 rfl) (lw_g_mk tw_12 rfl) (by decide) rfl (lw_g_mk tw_909 rfl) rfl (Nat.le_of_ble_eq_true rfl) dL_text_70 ⟨by rw [hRc]; omega, by rw [hRs]; omega⟩ (fun v9 σ9 Y9 hp9 => ?_)
      obtain ⟨aV, e7, e8, e9⟩ := hp9
      rw [e7, e8, e9]
      refine x_aload_n C dL_text_73 rfl 0 rfl ?_
      refine x_iload_n C dL_text_74 rfl 3 rfl ?_
      refine x_iconst C (v := 1) dL_text_75 (by decide) ?_
      obtain ⟨q9, hk13, h⟩ := Option.bind_eq_some_iff.mp h
      refine x_callS C (As := [.ref (sA ek), .int a30.1, .int (1 : Int32)]) (rest := [.ref aS]) (lw_g_mk tw_764 rfl) (okL_room l cy D B ek xs L hxs hLs a30.1 (1 : Int32) σ (Y1 ++ [cSB aS aV q8.2.2, cBy cy aV q8.1 q8.2.1]) _ hk13) rfl rfl (by rw [hR9]; decide) (lw_g_mk tw_765 rfl) (lw_g_mk tw_0 rfl) (by decide) rfl (lw_g_mk tw_763 rfl) rfl (Nat.le_of_ble_eq_true rfl) dL_text_76 ⟨by rw [hRc]; omega, by rw [hRs]; omega⟩ ?_
      obtain ⟨q10, hk14, h⟩ := Option.bind_eq_some_iff.mp h
      refine x_callVE C (As := [.int q9]) (rest := []) (lw_g_mk tw_923 rfl) (lw_g_mk tw_924 rfl) (wl_ex pu_0) (C1 := "java/lang/StringBuilder") (T := TJ4) (N := 4) (ci := 1) rfl (okT_sbI l cy D B ek _ _ q9 q8.1 q8.2.1 q8.2.2 σ Y1 _ hk14) rfl rfl (by rw [hR9]; decide) (lw_g_mk tw_925 rfl) (lw_g_mk tw_12 rfl) (by decide) rfl (lw_g_mk tw_922 rfl) rfl (Nat.le_of_ble_eq_true rfl) dL_text_79 ⟨by rw [hRc]; omega, by rw [hRs]; omega⟩ (fun v9 σ9 Y9 hp9 => ?_)
      obtain ⟨aV, e7, e8, e9⟩ := hp9
      rw [e7, e8, e9]
      refine x_bipush C (v := 32) dL_text_82 (by decide) ?_
      obtain ⟨q11, hk15, h⟩ := Option.bind_eq_some_iff.mp h
      refine x_callVE C (As := [.int (32 : Int32)]) (rest := []) (lw_g_mk tw_910 rfl) (lw_g_mk tw_911 rfl) (wl_ex pu_0) (C1 := "java/lang/StringBuilder") (T := TJ4) (N := 4) (ci := 1) rfl (okT_sbC l cy D B ek _ _ (32 : Int32) q10.1 q10.2.1 q10.2.2 σ Y1 _ hk15) rfl rfl (by rw [hR9]; decide) (lw_g_mk tw_912 rfl) (lw_g_mk tw_12 rfl) (by decide) rfl (lw_g_mk tw_909 rfl) rfl (Nat.le_of_ble_eq_true rfl) dL_text_84 ⟨by rw [hRc]; omega, by rw [hRs]; omega⟩ (fun v9 σ9 Y9 hp9 => ?_)
      obtain ⟨aV, e7, e8, e9⟩ := hp9
      rw [e7, e8, e9]
      refine x_aload_n C dL_text_87 rfl 0 rfl ?_
      refine x_iload_n C dL_text_88 rfl 3 rfl ?_
      refine x_iconst C (v := 2) dL_text_89 (by decide) ?_
      obtain ⟨q12, hk16, h⟩ := Option.bind_eq_some_iff.mp h
      refine x_callS C (As := [.ref (sA ek), .int a30.1, .int (2 : Int32)]) (rest := [.ref aS]) (lw_g_mk tw_764 rfl) (okL_room l cy D B ek xs L hxs hLs a30.1 (2 : Int32) σ (Y1 ++ [cSB aS aV q11.2.2, cBy cy aV q11.1 q11.2.1]) _ hk16) rfl rfl (by rw [hR9]; decide) (lw_g_mk tw_765 rfl) (lw_g_mk tw_0 rfl) (by decide) rfl (lw_g_mk tw_763 rfl) rfl (Nat.le_of_ble_eq_true rfl) dL_text_90 ⟨by rw [hRc]; omega, by rw [hRs]; omega⟩ ?_
      obtain ⟨q13, hk17, h⟩ := Option.bind_eq_some_iff.mp h
      refine x_callVE C (As := [.int q12]) (rest := []) (lw_g_mk tw_923 rfl) (lw_g_mk tw_924 rfl) (wl_ex pu_0) (C1 := "java/lang/StringBuilder") (T := TJ4) (N := 4) (ci := 1) rfl (okT_sbI l cy D B ek _ _ q12 q11.1 q11.2.1 q11.2.2 σ Y1 _ hk17) rfl rfl (by rw [hR9]; decide) (lw_g_mk tw_925 rfl) (lw_g_mk tw_12 rfl) (by decide) rfl (lw_g_mk tw_922 rfl) rfl (Nat.le_of_ble_eq_true rfl) dL_text_93 ⟨by rw [hRc]; omega, by rw [hRs]; omega⟩ (fun v9 σ9 Y9 hp9 => ?_)
      obtain ⟨aV, e7, e8, e9⟩ := hp9
      rw [e7, e8, e9]
      refine x_bipush C (v := 32) dL_text_96 (by decide) ?_
      obtain ⟨q14, hk18, h⟩ := Option.bind_eq_some_iff.mp h
      refine x_callVE C (As := [.int (32 : Int32)]) (rest := []) (lw_g_mk tw_910 rfl) (lw_g_mk tw_911 rfl) (wl_ex pu_0) (C1 := "java/lang/StringBuilder") (T := TJ4) (N := 4) (ci := 1) rfl (okT_sbC l cy D B ek _ _ (32 : Int32) q13.1 q13.2.1 q13.2.2 σ Y1 _ hk18) rfl rfl (by rw [hR9]; decide) (lw_g_mk tw_912 rfl) (lw_g_mk tw_12 rfl) (by decide) rfl (lw_g_mk tw_909 rfl) rfl (Nat.le_of_ble_eq_true rfl) dL_text_98 ⟨by rw [hRc]; omega, by rw [hRs]; omega⟩ (fun v9 σ9 Y9 hp9 => ?_)
      obtain ⟨aV, e7, e8, e9⟩ := hp9
      rw [e7, e8, e9]
      refine x_aload_n C dL_text_101 rfl 0 rfl ?_
      refine x_iload_n C dL_text_102 rfl 3 rfl ?_
      refine x_iconst C (v := 3) dL_text_103 (by decide) ?_
      obtain ⟨q15, hk19, h⟩ := Option.bind_eq_some_iff.mp h
      refine x_callS C (As := [.ref (sA ek), .int a30.1, .int (3 : Int32)]) (rest := [.ref aS]) (lw_g_mk tw_764 rfl) (okL_room l cy D B ek xs L hxs hLs a30.1 (3 : Int32) σ (Y1 ++ [cSB aS aV q14.2.2, cBy cy aV q14.1 q14.2.1]) _ hk19) rfl rfl (by rw [hR9]; decide) (lw_g_mk tw_765 rfl) (lw_g_mk tw_0 rfl) (by decide) rfl (lw_g_mk tw_763 rfl) rfl (Nat.le_of_ble_eq_true rfl) dL_text_104 ⟨by rw [hRc]; omega, by rw [hRs]; omega⟩ ?_
      obtain ⟨q16, hk20, h⟩ := Option.bind_eq_some_iff.mp h
      refine x_callVE C (As := [.int q15]) (rest := []) (lw_g_mk tw_923 rfl) (lw_g_mk tw_924 rfl) (wl_ex pu_0) (C1 := "java/lang/StringBuilder") (T := TJ4) (N := 4) (ci := 1) rfl (okT_sbI l cy D B ek _ _ q15 q14.1 q14.2.1 q14.2.2 σ Y1 _ hk20) rfl rfl (by rw [hR9]; decide) (lw_g_mk tw_925 rfl) (lw_g_mk tw_12 rfl) (by decide) rfl (lw_g_mk tw_922 rfl) rfl (Nat.le_of_ble_eq_true rfl) dL_text_107 ⟨by rw [hRc]; omega, by rw [hRs]; omega⟩ (fun v9 σ9 Y9 hp9 => ?_)
      obtain ⟨aV, e7, e8, e9⟩ := hp9
      rw [e7, e8, e9]
      refine x_bipush C (v := 59) dL_text_110 (by decide) ?_
      obtain ⟨q17, hk21, h⟩ := Option.bind_eq_some_iff.mp h
      refine x_callVE C (As := [.int (59 : Int32)]) (rest := []) (lw_g_mk tw_910 rfl) (lw_g_mk tw_911 rfl) (wl_ex pu_0) (C1 := "java/lang/StringBuilder") (T := TJ4) (N := 4) (ci := 1) rfl (okT_sbC l cy D B ek _ _ (59 : Int32) q16.1 q16.2.1 q16.2.2 σ Y1 _ hk21) rfl rfl (by rw [hR9]; decide) (lw_g_mk tw_912 rfl) (lw_g_mk tw_12 rfl) (by decide) rfl (lw_g_mk tw_909 rfl) rfl (Nat.le_of_ble_eq_true rfl) dL_text_112 ⟨by rw [hRc]; omega, by rw [hRs]; omega⟩ (fun v9 σ9 Y9 hp9 => ?_)
      obtain ⟨aV, e7, e8, e9⟩ := hp9
      rw [e7, e8, e9]
      refine x_pop C dL_text_115 rfl ?_
      refine x_iinc C (k := 3) [(3, .int (a30.1 + (1 : Int32))), (0, .ref (sA ek)), (1, .ref aK), (2, .ref aS)] dL_text_116 rfl rfl (by decide) rfl ?_
      refine x_goto C (tgt := 30) dL_text_119 (by decide) ?_
      cases h
      refine x_widen (cells2 := ((((0 + 1) + 1) + 1) + (6 - n30) * 11)) (slots2 := ((((0 + 3) + 4) + 2000) + (6 - n30) * 22000)) (by omega) (by omega) ?_
      refine x_sub [1, 2, 3, 0] rfl ?_
      exact hA2 (a30.1 + (1 : Int32), q17.1, q17.2.1, q17.2.2) rfl aV
  · show ∀ aV : Nat, X p l e R s m args below meth c 5 cy D B ((((0 + 1) + 1) + 1) + 66) ((((0 + 3) + 4) + 2000) + 132000) Q 122 [(0, .ref (sA ek)), (2, .ref aS)] [] σ (Y1 ++ [cSB aS aV b30.2.2, cBy cy aV b30.1 b30.2.1])
    intro aV
    refine x_aload_n C dL_text_122 rfl 1 rfl ?_
    refine x_ldcW C (i := 12) (tx := "over ") (by decide) dL_text_123 ?_
    obtain ⟨q18, hk23, h⟩ := Option.bind_eq_some_iff.mp h
    refine x_callVE C (As := [.ref (ek.1 12)]) (rest := []) (lw_g_mk tw_813 rfl) (lw_g_mk tw_814 rfl) (wl_ex pu_0) (C1 := "java/lang/StringBuilder") (T := TJ4) (N := 4) (ci := 1) rfl (okT_sbS l cy D B ek _ _ 12 b30.1 b30.2.1 b30.2.2 σ Y1 (by decide) _ hk23) rfl rfl (by rw [hR9]; decide) (lw_g_mk tw_815 rfl) (lw_g_mk tw_12 rfl) (by decide) rfl (lw_g_mk tw_812 rfl) rfl (Nat.le_of_ble_eq_true rfl) dL_text_125 ⟨by rw [hRc]; omega, by rw [hRs]; omega⟩ (fun v9 σ9 Y9 hp9 => ?_)
    obtain ⟨aV, e7, e8, e9⟩ := hp9
    rw [e7, e8, e9]
    refine x_aload_n C dL_text_128 rfl 0 rfl ?_
    refine x_iconst C (v := 0) dL_text_129 (by decide) ?_
    obtain ⟨q19, hk24, h⟩ := Option.bind_eq_some_iff.mp h
    refine x_callS C (As := [.ref (sA ek), .int (0 : Int32)]) (rest := [.ref aS]) (lw_g_mk tw_949 rfl) (okL_setting l cy D B ek xs L hxs hLs (0 : Int32) σ (Y1 ++ [cSB aS aV q18.2.2, cBy cy aV q18.1 q18.2.1]) _ hk24) rfl rfl (by rw [hR9]; decide) (lw_g_mk tw_950 rfl) (lw_g_mk tw_0 rfl) (by decide) rfl (lw_g_mk tw_948 rfl) rfl (Nat.le_of_ble_eq_true rfl) dL_text_130 ⟨by rw [hRc]; omega, by rw [hRs]; omega⟩ ?_
    obtain ⟨q20, hk25, h⟩ := Option.bind_eq_some_iff.mp h
    refine x_callVE C (As := [.int q19]) (rest := []) (lw_g_mk tw_923 rfl) (lw_g_mk tw_924 rfl) (wl_ex pu_0) (C1 := "java/lang/StringBuilder") (T := TJ4) (N := 4) (ci := 1) rfl (okT_sbI l cy D B ek _ _ q19 q18.1 q18.2.1 q18.2.2 σ Y1 _ hk25) rfl rfl (by rw [hR9]; decide) (lw_g_mk tw_925 rfl) (lw_g_mk tw_12 rfl) (by decide) rfl (lw_g_mk tw_922 rfl) rfl (Nat.le_of_ble_eq_true rfl) dL_text_133 ⟨by rw [hRc]; omega, by rw [hRs]; omega⟩ (fun v9 σ9 Y9 hp9 => ?_)
    obtain ⟨aV, e7, e8, e9⟩ := hp9
    rw [e7, e8, e9]
    refine x_ldcW C (i := 13) (tx := ";walk ") (by decide) dL_text_136 ?_
    obtain ⟨q21, hk26, h⟩ := Option.bind_eq_some_iff.mp h
    refine x_callVE C (As := [.ref (ek.1 13)]) (rest := []) (lw_g_mk tw_813 rfl) (lw_g_mk tw_814 rfl) (wl_ex pu_0) (C1 := "java/lang/StringBuilder") (T := TJ4) (N := 4) (ci := 1) rfl (okT_sbS l cy D B ek _ _ 13 q20.1 q20.2.1 q20.2.2 σ Y1 (by decide) _ hk26) rfl rfl (by rw [hR9]; decide) (lw_g_mk tw_815 rfl) (lw_g_mk tw_12 rfl) (by decide) rfl (lw_g_mk tw_812 rfl) rfl (Nat.le_of_ble_eq_true rfl) dL_text_138 ⟨by rw [hRc]; omega, by rw [hRs]; omega⟩ (fun v9 σ9 Y9 hp9 => ?_)
    obtain ⟨aV, e7, e8, e9⟩ := hp9
    rw [e7, e8, e9]
    refine x_aload_n C dL_text_141 rfl 0 rfl ?_
    refine x_iconst C (v := 1) dL_text_142 (by decide) ?_
    obtain ⟨q22, hk27, h⟩ := Option.bind_eq_some_iff.mp h
    refine x_callS C (As := [.ref (sA ek), .int (1 : Int32)]) (rest := [.ref aS]) (lw_g_mk tw_949 rfl) (okL_setting l cy D B ek xs L hxs hLs (1 : Int32) σ (Y1 ++ [cSB aS aV q21.2.2, cBy cy aV q21.1 q21.2.1]) _ hk27) rfl rfl (by rw [hR9]; decide) (lw_g_mk tw_950 rfl) (lw_g_mk tw_0 rfl) (by decide) rfl (lw_g_mk tw_948 rfl) rfl (Nat.le_of_ble_eq_true rfl) dL_text_143 ⟨by rw [hRc]; omega, by rw [hRs]; omega⟩ ?_
    obtain ⟨q23, hk28, h⟩ := Option.bind_eq_some_iff.mp h
    refine x_callVE C (As := [.int q22]) (rest := []) (lw_g_mk tw_923 rfl) (lw_g_mk tw_924 rfl) (wl_ex pu_0) (C1 := "java/lang/StringBuilder") (T := TJ4) (N := 4) (ci := 1) rfl (okT_sbI l cy D B ek _ _ q22 q21.1 q21.2.1 q21.2.2 σ Y1 _ hk28) rfl rfl (by rw [hR9]; decide) (lw_g_mk tw_925 rfl) (lw_g_mk tw_12 rfl) (by decide) rfl (lw_g_mk tw_922 rfl) rfl (Nat.le_of_ble_eq_true rfl) dL_text_146 ⟨by rw [hRc]; omega, by rw [hRs]; omega⟩ (fun v9 σ9 Y9 hp9 => ?_)
    obtain ⟨aV, e7, e8, e9⟩ := hp9
    rw [e7, e8, e9]
    refine x_ldcW C (i := 14) (tx := ";offer ") (by decide) dL_text_149 ?_
    obtain ⟨q24, hk29, h⟩ := Option.bind_eq_some_iff.mp h
    refine x_callVE C (As := [.ref (ek.1 14)]) (rest := []) (lw_g_mk tw_813 rfl) (lw_g_mk tw_814 rfl) (wl_ex pu_0) (C1 := "java/lang/StringBuilder") (T := TJ4) (N := 4) (ci := 1) rfl (okT_sbS l cy D B ek _ _ 14 q23.1 q23.2.1 q23.2.2 σ Y1 (by decide) _ hk29) rfl rfl (by rw [hR9]; decide) (lw_g_mk tw_815 rfl) (lw_g_mk tw_12 rfl) (by decide) rfl (lw_g_mk tw_812 rfl) rfl (Nat.le_of_ble_eq_true rfl) dL_text_151 ⟨by rw [hRc]; omega, by rw [hRs]; omega⟩ (fun v9 σ9 Y9 hp9 => ?_)
    obtain ⟨aV, e7, e8, e9⟩ := hp9
    rw [e7, e8, e9]
    refine x_aload_n C dL_text_154 rfl 0 rfl ?_
    refine x_iconst C (v := 2) dL_text_155 (by decide) ?_
    obtain ⟨q25, hk30, h⟩ := Option.bind_eq_some_iff.mp h
    refine x_callS C (As := [.ref (sA ek), .int (2 : Int32)]) (rest := [.ref aS]) (lw_g_mk tw_949 rfl) (okL_setting l cy D B ek xs L hxs hLs (2 : Int32) σ (Y1 ++ [cSB aS aV q24.2.2, cBy cy aV q24.1 q24.2.1]) _ hk30) rfl rfl (by rw [hR9]; decide) (lw_g_mk tw_950 rfl) (lw_g_mk tw_0 rfl) (by decide) rfl (lw_g_mk tw_948 rfl) rfl (Nat.le_of_ble_eq_true rfl) dL_text_156 ⟨by rw [hRc]; omega, by rw [hRs]; omega⟩ ?_
    obtain ⟨q26, hk31, h⟩ := Option.bind_eq_some_iff.mp h
    refine x_callVE C (As := [.int q25]) (rest := []) (lw_g_mk tw_923 rfl) (lw_g_mk tw_924 rfl) (wl_ex pu_0) (C1 := "java/lang/StringBuilder") (T := TJ4) (N := 4) (ci := 1) rfl (okT_sbI l cy D B ek _ _ q25 q24.1 q24.2.1 q24.2.2 σ Y1 _ hk31) rfl rfl (by rw [hR9]; decide) (lw_g_mk tw_925 rfl) (lw_g_mk tw_12 rfl) (by decide) rfl (lw_g_mk tw_922 rfl) rfl (Nat.le_of_ble_eq_true rfl) dL_text_159 ⟨by rw [hRc]; omega, by rw [hRs]; omega⟩ (fun v9 σ9 Y9 hp9 => ?_)
    obtain ⟨aV, e7, e8, e9⟩ := hp9
    rw [e7, e8, e9]
    refine x_bipush C (v := 32) dL_text_162 (by decide) ?_
    obtain ⟨q27, hk32, h⟩ := Option.bind_eq_some_iff.mp h
    refine x_callVE C (As := [.int (32 : Int32)]) (rest := []) (lw_g_mk tw_910 rfl) (lw_g_mk tw_911 rfl) (wl_ex pu_0) (C1 := "java/lang/StringBuilder") (T := TJ4) (N := 4) (ci := 1) rfl (okT_sbC l cy D B ek _ _ (32 : Int32) q26.1 q26.2.1 q26.2.2 σ Y1 _ hk32) rfl rfl (by rw [hR9]; decide) (lw_g_mk tw_912 rfl) (lw_g_mk tw_12 rfl) (by decide) rfl (lw_g_mk tw_909 rfl) rfl (Nat.le_of_ble_eq_true rfl) dL_text_164 ⟨by rw [hRc]; omega, by rw [hRs]; omega⟩ (fun v9 σ9 Y9 hp9 => ?_)
    obtain ⟨aV, e7, e8, e9⟩ := hp9
    rw [e7, e8, e9]
    refine x_aload_n C dL_text_167 rfl 0 rfl ?_
    refine x_iconst C (v := 3) dL_text_168 (by decide) ?_
    obtain ⟨q28, hk33, h⟩ := Option.bind_eq_some_iff.mp h
    refine x_callS C (As := [.ref (sA ek), .int (3 : Int32)]) (rest := [.ref aS]) (lw_g_mk tw_949 rfl) (okL_setting l cy D B ek xs L hxs hLs (3 : Int32) σ (Y1 ++ [cSB aS aV q27.2.2, cBy cy aV q27.1 q27.2.1]) _ hk33) rfl rfl (by rw [hR9]; decide) (lw_g_mk tw_950 rfl) (lw_g_mk tw_0 rfl) (by decide) rfl (lw_g_mk tw_948 rfl) rfl (Nat.le_of_ble_eq_true rfl) dL_text_169 ⟨by rw [hRc]; omega, by rw [hRs]; omega⟩ ?_
    obtain ⟨q29, hk34, h⟩ := Option.bind_eq_some_iff.mp h
    refine x_callVE C (As := [.int q28]) (rest := []) (lw_g_mk tw_923 rfl) (lw_g_mk tw_924 rfl) (wl_ex pu_0) (C1 := "java/lang/StringBuilder") (T := TJ4) (N := 4) (ci := 1) rfl (okT_sbI l cy D B ek _ _ q28 q27.1 q27.2.1 q27.2.2 σ Y1 _ hk34) rfl rfl (by rw [hR9]; decide) (lw_g_mk tw_925 rfl) (lw_g_mk tw_12 rfl) (by decide) rfl (lw_g_mk tw_922 rfl) rfl (Nat.le_of_ble_eq_true rfl) dL_text_172 ⟨by rw [hRc]; omega, by rw [hRs]; omega⟩ (fun v9 σ9 Y9 hp9 => ?_)
    obtain ⟨aV, e7, e8, e9⟩ := hp9
    rw [e7, e8, e9]
    refine x_bipush C (v := 59) dL_text_175 (by decide) ?_
    obtain ⟨q30, hk35, h⟩ := Option.bind_eq_some_iff.mp h
    refine x_callVE C (As := [.int (59 : Int32)]) (rest := []) (lw_g_mk tw_910 rfl) (lw_g_mk tw_911 rfl) (wl_ex pu_0) (C1 := "java/lang/StringBuilder") (T := TJ4) (N := 4) (ci := 1) rfl (okT_sbC l cy D B ek _ _ (59 : Int32) q29.1 q29.2.1 q29.2.2 σ Y1 _ hk35) rfl rfl (by rw [hR9]; decide) (lw_g_mk tw_912 rfl) (lw_g_mk tw_12 rfl) (by decide) rfl (lw_g_mk tw_909 rfl) rfl (Nat.le_of_ble_eq_true rfl) dL_text_177 ⟨by rw [hRc]; omega, by rw [hRs]; omega⟩ (fun v9 σ9 Y9 hp9 => ?_)
    obtain ⟨aV, e7, e8, e9⟩ := hp9
    rw [e7, e8, e9]
    refine x_pop C dL_text_180 rfl ?_
    refine x_iconst C (v := 0) dL_text_181 (by decide) ?_
    refine x_istore_n C [(3, .int (0 : Int32)), (0, .ref (sA ek)), (2, .ref aS)] dL_text_182 rfl (by decide) rfl ?_
    obtain ⟨b183, hk53, h⟩ := Option.bind_eq_some_iff.mp h
    refine x_sub [1, 2, 0] rfl ?_
    refine x_widen (cells2 := ((((((((((((((0 + 1) + 1) + 1) + 66) + 1) + 1) + 1) + 1) + 1) + 1) + 1) + 1) + 1) + (9 - 9) * 19)) (slots2 := ((((((((((((((0 + 3) + 4) + 2000) + 132000) + 2000) + 2000) + 2000) + 2000) + 2000) + 2000) + 2000) + 2000) + 2000) + (9 - 9) * 38000)) (by omega) (by omega) ?_
    refine loop_runN (N := 9) (step := stT_text_183 xs L) (P := fun (n183 : Nat) (a183 : Int32 × Nat × (Nat → Int32) × Int32) => ∀ aV : Nat, X p l e R s m args below meth c 5 cy D B ((((((((((((((0 + 1) + 1) + 1) + 66) + 1) + 1) + 1) + 1) + 1) + 1) + 1) + 1) + 1) + (9 - n183) * 19) ((((((((((((((0 + 3) + 4) + 2000) + 132000) + 2000) + 2000) + 2000) + 2000) + 2000) + 2000) + 2000) + 2000) + 2000) + (9 - n183) * 38000) Q 183 [(0, .ref (sA ek)), (2, .ref aS), (3, .int a183.1)] [] σ (Y1 ++ [cSB aS aV a183.2.2.2, cBy cy aV a183.2.1 a183.2.2.1])) (K := fun (b183 : Nat × (Nat → Int32) × Int32) => ∀ aV : Nat, X p l e R s m args below meth c 5 cy D B ((((((((((((((0 + 1) + 1) + 1) + 66) + 1) + 1) + 1) + 1) + 1) + 1) + 1) + 1) + 1) + 171) ((((((((((((((0 + 3) + 4) + 2000) + 132000) + 2000) + 2000) + 2000) + 2000) + 2000) + 2000) + 2000) + 2000) + 2000) + 342000) Q 268 [(2, .ref aS)] [] σ (Y1 ++ [cSB aS aV b183.2.2, cBy cy aV b183.1 b183.2.1])) ?_ 9 ((0 : Int32), q30.1, q30.2.1, q30.2.2) b183 (Nat.le_refl _) hk53 ?_ aV
    · intro n183 a183 r hn183 h hA36 hB37 aV
      unfold stT_text_183 at h
      refine x_iload_n C dL_text_183 rfl 2 rfl ?_
      refine x_aload_n C dL_text_184 rfl 0 rfl ?_
      obtain ⟨q31, hk38, h⟩ := Option.bind_eq_some_iff.mp h
      refine x_callS C (As := [.ref (sA ek)]) (rest := [.int a183.1]) (lw_g_mk tw_767 rfl) (okL_bookingsOf l cy D B ek xs L hxs hLs σ (Y1 ++ [cSB aS aV a183.2.2.2, cBy cy aV a183.2.1 a183.2.2.1]) _ hk38) rfl rfl (by rw [hR9]; decide) (lw_g_mk tw_768 rfl) (lw_g_mk tw_0 rfl) (by decide) rfl (lw_g_mk tw_766 rfl) rfl (Nat.le_of_ble_eq_true rfl) dL_text_185 ⟨by rw [hRc]; omega, by rw [hRs]; omega⟩ ?_
      refine x_icmp_ge C (tgt := 268) dL_text_188 (by decide) (fun hc39 => ?_) (fun hc39 => ?_)
      · rw [if_pos hc39] at h
        cases h
        refine x_widen (cells2 := ((((((((((((((0 + 1) + 1) + 1) + 66) + 1) + 1) + 1) + 1) + 1) + 1) + 1) + 1) + 1) + 171)) (slots2 := ((((((((((((((0 + 3) + 4) + 2000) + 132000) + 2000) + 2000) + 2000) + 2000) + 2000) + 2000) + 2000) + 2000) + 2000) + 342000)) (by omega) (by omega) ?_
        refine x_sub [1] rfl ?_
        exact hB37 (a183.2.1, a183.2.2.1, a183.2.2.2) rfl aV
      · rw [if_neg hc39] at h
        refine x_aload_n C dL_text_191 rfl 1 rfl ?_
        refine x_ldcW C (i := 15) (tx := "book g") (by decide) dL_text_192 ?_
        obtain ⟨q32, hk40, h⟩ := Option.bind_eq_some_iff.mp h
        refine x_callVE C (As := [.ref (ek.1 15)]) (rest := []) (lw_g_mk tw_813 rfl) (lw_g_mk tw_814 rfl) (wl_ex pu_0) (C1 := "java/lang/StringBuilder") (T := TJ4) (N := 4) (ci := 1) rfl (okT_sbS l cy D B ek _ _ 15 a183.2.1 a183.2.2.1 a183.2.2.2 σ Y1 (by decide) _ hk40) rfl rfl (by rw [hR9]; decide) (lw_g_mk tw_815 rfl) (lw_g_mk tw_12 rfl) (by decide) rfl (lw_g_mk tw_812 rfl) rfl (Nat.le_of_ble_eq_true rfl) dL_text_194 ⟨by rw [hRc]; omega, by rw [hRs]; omega⟩ (fun v9 σ9 Y9 hp9 => ?_)
        obtain ⟨aV, e7, e8, e9⟩ := hp9
        rw [e7, e8, e9]
        refine x_bipush C (v := 97) dL_text_197 (by decide) ?_
        refine x_iload_n C dL_text_199 rfl 2 rfl ?_
        refine x_iadd C dL_text_200 ?_
        refine x_i2c C dL_text_201 ?_
        obtain ⟨q33, hk41, h⟩ := Option.bind_eq_some_iff.mp h
        refine x_callVE C (As := [.int ((((97 : Int32) + a183.1).toUInt32 % 65536).toInt32)]) (rest := []) (lw_g_mk tw_910 rfl) (lw_g_mk tw_911 rfl) (wl_ex pu_0) (C1 := "java/lang/StringBuilder") (T := TJ4) (N := 4) (ci := 1) rfl (okT_sbC l cy D B ek _ _ ((((97 : Int32) + a183.1).toUInt32 % 65536).toInt32) q32.1 q32.2.1 q32.2.2 σ Y1 _ hk41) rfl rfl (by rw [hR9]; decide) (lw_g_mk tw_912 rfl) (lw_g_mk tw_12 rfl) (by decide) rfl (lw_g_mk tw_909 rfl) rfl (Nat.le_of_ble_eq_true rfl) dL_text_202 ⟨by rw [hRc]; omega, by rw [hRs]; omega⟩ (fun v9 σ9 Y9 hp9 => ?_)
        obtain ⟨aV, e7, e8, e9⟩ := hp9
        rw [e7, e8, e9]
        refine x_pop C dL_text_205 rfl ?_
        refine x_iconst C (v := 0) dL_text_206 (by decide) ?_
        refine x_istore C [(4, .int (0 : Int32)), (0, .ref (sA ek)), (2, .ref aS), (3, .int a183.1)] dL_text_207 (by decide) rfl ?_
        obtain ⟨b209, hk48, h⟩ := Option.bind_eq_some_iff.mp h
        refine x_sub [1, 2, 3, 0] rfl ?_
        refine x_widen (cells2 := (((((((((((((((((0 + 1) + 1) + 1) + 66) + 1) + 1) + 1) + 1) + 1) + 1) + 1) + 1) + 1) + (9 - (n183 + 1)) * 19) + 1) + 1) + (8 - 8) * 2)) (slots2 := (((((((((((((((((0 + 3) + 4) + 2000) + 132000) + 2000) + 2000) + 2000) + 2000) + 2000) + 2000) + 2000) + 2000) + 2000) + (9 - (n183 + 1)) * 38000) + 2000) + 2000) + (8 - 8) * 4000)) (by omega) (by omega) ?_
        refine loop_runN (N := 8) (step := stT_text_209 xs L a183) (P := fun (n209 : Nat) (a209 : Int32 × Nat × (Nat → Int32) × Int32) => ∀ aV : Nat, X p l e R s m args below meth c 5 cy D B (((((((((((((((((0 + 1) + 1) + 1) + 66) + 1) + 1) + 1) + 1) + 1) + 1) + 1) + 1) + 1) + (9 - (n183 + 1)) * 19) + 1) + 1) + (8 - n209) * 2) (((((((((((((((((0 + 3) + 4) + 2000) + 132000) + 2000) + 2000) + 2000) + 2000) + 2000) + 2000) + 2000) + 2000) + 2000) + (9 - (n183 + 1)) * 38000) + 2000) + 2000) + (8 - n209) * 4000) Q 209 [(0, .ref (sA ek)), (2, .ref aS), (3, .int a183.1), (4, .int a209.1)] [] σ (Y1 ++ [cSB aS aV a209.2.2.2, cBy cy aV a209.2.1 a209.2.2.1])) (K := fun (b209 : Nat × (Nat → Int32) × Int32) => ∀ aV : Nat, X p l e R s m args below meth c 5 cy D B (((((((((((((((((0 + 1) + 1) + 1) + 66) + 1) + 1) + 1) + 1) + 1) + 1) + 1) + 1) + 1) + (9 - (n183 + 1)) * 19) + 1) + 1) + 16) (((((((((((((((((0 + 3) + 4) + 2000) + 132000) + 2000) + 2000) + 2000) + 2000) + 2000) + 2000) + 2000) + 2000) + 2000) + (9 - (n183 + 1)) * 38000) + 2000) + 2000) + 32000) Q 239 [(0, .ref (sA ek)), (2, .ref aS), (3, .int a183.1)] [] σ (Y1 ++ [cSB aS aV b209.2.2, cBy cy aV b209.1 b209.2.1])) ?_ 8 ((0 : Int32), q33.1, q33.2.1, q33.2.2) b209 (Nat.le_refl _) hk48 ?_ aV
        · intro n209 a209 r hn209 h hA42 hB43 aV
          unfold stT_text_209 at h
          refine x_iload C dL_text_209 3 rfl ?_
          refine x_bipush C (v := 6) dL_text_211 (by decide) ?_
          refine x_icmp_ge C (tgt := 239) dL_text_213 (by decide) (fun hc44 => ?_) (fun hc44 => ?_)
          · rw [if_pos hc44] at h
            cases h
            refine x_widen (cells2 := (((((((((((((((((0 + 1) + 1) + 1) + 66) + 1) + 1) + 1) + 1) + 1) + 1) + 1) + 1) + 1) + (9 - (n183 + 1)) * 19) + 1) + 1) + 16)) (slots2 := (((((((((((((((((0 + 3) + 4) + 2000) + 132000) + 2000) + 2000) + 2000) + 2000) + 2000) + 2000) + 2000) + 2000) + 2000) + (9 - (n183 + 1)) * 38000) + 2000) + 2000) + 32000)) (by omega) (by omega) ?_
            refine x_sub [0, 1, 2] rfl ?_
            exact hB43 (a209.2.1, a209.2.2.1, a209.2.2.2) rfl aV
          · rw [if_neg hc44] at h
            refine x_aload_n C dL_text_216 rfl 1 rfl ?_
            refine x_bipush C (v := 32) dL_text_217 (by decide) ?_
            obtain ⟨q34, hk45, h⟩ := Option.bind_eq_some_iff.mp h
            refine x_callVE C (As := [.int (32 : Int32)]) (rest := []) (lw_g_mk tw_910 rfl) (lw_g_mk tw_911 rfl) (wl_ex pu_0) (C1 := "java/lang/StringBuilder") (T := TJ4) (N := 4) (ci := 1) rfl (okT_sbC l cy D B ek _ _ (32 : Int32) a209.2.1 a209.2.2.1 a209.2.2.2 σ Y1 _ hk45) rfl rfl (by rw [hR9]; decide) (lw_g_mk tw_912 rfl) (lw_g_mk tw_12 rfl) (by decide) rfl (lw_g_mk tw_909 rfl) rfl (Nat.le_of_ble_eq_true rfl) dL_text_219 ⟨by rw [hRc]; omega, by rw [hRs]; omega⟩ (fun v9 σ9 Y9 hp9 => ?_)
            obtain ⟨aV, e7, e8, e9⟩ := hp9
            rw [e7, e8, e9]
            refine x_aload_n C dL_text_222 rfl 0 rfl ?_
            refine x_iload_n C dL_text_223 rfl 2 rfl ?_
            refine x_iload C dL_text_224 3 rfl ?_
            obtain ⟨q35, hk46, h⟩ := Option.bind_eq_some_iff.mp h
            refine x_callS C (As := [.ref (sA ek), .int a183.1, .int a209.1]) (rest := [.ref aS]) (lw_g_mk tw_770 rfl) (okL_booking l cy D B ek xs L hxs hLs a183.1 a209.1 σ (Y1 ++ [cSB aS aV q34.2.2, cBy cy aV q34.1 q34.2.1]) _ hk46) rfl rfl (by rw [hR9]; decide) (lw_g_mk tw_771 rfl) (lw_g_mk tw_0 rfl) (by decide) rfl (lw_g_mk tw_769 rfl) rfl (Nat.le_of_ble_eq_true rfl) dL_text_226 ⟨by rw [hRc]; omega, by rw [hRs]; omega⟩ ?_
            obtain ⟨q36, hk47, h⟩ := Option.bind_eq_some_iff.mp h
            refine x_callVE C (As := [.int q35]) (rest := []) (lw_g_mk tw_923 rfl) (lw_g_mk tw_924 rfl) (wl_ex pu_0) (C1 := "java/lang/StringBuilder") (T := TJ4) (N := 4) (ci := 1) rfl (okT_sbI l cy D B ek _ _ q35 q34.1 q34.2.1 q34.2.2 σ Y1 _ hk47) rfl rfl (by rw [hR9]; decide) (lw_g_mk tw_925 rfl) (lw_g_mk tw_12 rfl) (by decide) rfl (lw_g_mk tw_922 rfl) rfl (Nat.le_of_ble_eq_true rfl) dL_text_229 ⟨by rw [hRc]; omega, by rw [hRs]; omega⟩ (fun v9 σ9 Y9 hp9 => ?_)
            obtain ⟨aV, e7, e8, e9⟩ := hp9
            rw [e7, e8, e9]
            refine x_pop C dL_text_232 rfl ?_
            refine x_iinc C (k := 3) [(4, .int (a209.1 + (1 : Int32))), (0, .ref (sA ek)), (2, .ref aS), (3, .int a183.1)] dL_text_233 rfl rfl (by decide) rfl ?_
            refine x_goto C (tgt := 209) dL_text_236 (by decide) ?_
            cases h
            refine x_widen (cells2 := (((((((((((((((((0 + 1) + 1) + 1) + 66) + 1) + 1) + 1) + 1) + 1) + 1) + 1) + 1) + 1) + (9 - (n183 + 1)) * 19) + 1) + 1) + (8 - n209) * 2)) (slots2 := (((((((((((((((((0 + 3) + 4) + 2000) + 132000) + 2000) + 2000) + 2000) + 2000) + 2000) + 2000) + 2000) + 2000) + 2000) + (9 - (n183 + 1)) * 38000) + 2000) + 2000) + (8 - n209) * 4000)) (by omega) (by omega) ?_
            refine x_sub [1, 2, 3, 0] rfl ?_
            exact hA42 (a209.1 + (1 : Int32), q36.1, q36.2.1, q36.2.2) rfl aV
        · show ∀ aV : Nat, X p l e R s m args below meth c 5 cy D B (((((((((((((((((0 + 1) + 1) + 1) + 66) + 1) + 1) + 1) + 1) + 1) + 1) + 1) + 1) + 1) + (9 - (n183 + 1)) * 19) + 1) + 1) + 16) (((((((((((((((((0 + 3) + 4) + 2000) + 132000) + 2000) + 2000) + 2000) + 2000) + 2000) + 2000) + 2000) + 2000) + 2000) + (9 - (n183 + 1)) * 38000) + 2000) + 2000) + 32000) Q 239 [(0, .ref (sA ek)), (2, .ref aS), (3, .int a183.1)] [] σ (Y1 ++ [cSB aS aV b209.2.2, cBy cy aV b209.1 b209.2.1])
          intro aV
          refine x_aload_n C dL_text_239 rfl 1 rfl ?_
          refine x_aload_n C dL_text_240 rfl 0 rfl ?_
          refine x_iload_n C dL_text_241 rfl 2 rfl ?_
          refine x_bipush C (v := 6) dL_text_242 (by decide) ?_
          obtain ⟨q37, hk49, h⟩ := Option.bind_eq_some_iff.mp h
          refine x_callS C (As := [.ref (sA ek), .int a183.1, .int (6 : Int32)]) (rest := [.ref aS]) (lw_g_mk tw_770 rfl) (okL_booking l cy D B ek xs L hxs hLs a183.1 (6 : Int32) σ (Y1 ++ [cSB aS aV b209.2.2, cBy cy aV b209.1 b209.2.1]) _ hk49) rfl rfl (by rw [hR9]; decide) (lw_g_mk tw_771 rfl) (lw_g_mk tw_0 rfl) (by decide) rfl (lw_g_mk tw_769 rfl) rfl (Nat.le_of_ble_eq_true rfl) dL_text_244 ⟨by rw [hRc]; omega, by rw [hRs]; omega⟩ ?_
          refine x_iconst C (v := 1) dL_text_247 (by decide) ?_
          refine x_icmp_ne C (tgt := 256) dL_text_248 (by decide) (fun hc50 => ?_) (fun hc50 => ?_)
          · rw [if_pos hc50] at h
            refine x_ldcW C (i := 17) (tx := ";") (by decide) dL_text_256 ?_
            obtain ⟨q38, hk51, h⟩ := Option.bind_eq_some_iff.mp h
            refine x_callVE C (As := [.ref (ek.1 17)]) (rest := []) (lw_g_mk tw_813 rfl) (lw_g_mk tw_814 rfl) (wl_ex pu_0) (C1 := "java/lang/StringBuilder") (T := TJ4) (N := 4) (ci := 1) rfl (okT_sbS l cy D B ek _ _ 17 b209.1 b209.2.1 b209.2.2 σ Y1 (by decide) _ hk51) rfl rfl (by rw [hR9]; decide) (lw_g_mk tw_815 rfl) (lw_g_mk tw_12 rfl) (by decide) rfl (lw_g_mk tw_812 rfl) rfl (Nat.le_of_ble_eq_true rfl) dL_text_258 ⟨by rw [hRc]; omega, by rw [hRs]; omega⟩ (fun v9 σ9 Y9 hp9 => ?_)
            obtain ⟨aV, e7, e8, e9⟩ := hp9
            rw [e7, e8, e9]
            refine x_pop C dL_text_261 rfl ?_
            refine x_iinc C (k := 2) [(3, .int (a183.1 + (1 : Int32))), (0, .ref (sA ek)), (2, .ref aS)] dL_text_262 rfl rfl (by decide) rfl ?_
            refine x_goto C (tgt := 183) dL_text_265 (by decide) ?_
            cases h
            refine x_widen (cells2 := ((((((((((((((0 + 1) + 1) + 1) + 66) + 1) + 1) + 1) + 1) + 1) + 1) + 1) + 1) + 1) + (9 - n183) * 19)) (slots2 := ((((((((((((((0 + 3) + 4) + 2000) + 132000) + 2000) + 2000) + 2000) + 2000) + 2000) + 2000) + 2000) + 2000) + 2000) + (9 - n183) * 38000)) (by omega) (by omega) ?_
            refine x_sub [1, 2, 0] rfl ?_
            exact hA36 (a183.1 + (1 : Int32), q38.1, q38.2.1, q38.2.2) rfl aV
          · rw [if_neg hc50] at h
            refine x_ldcW C (i := 16) (tx := " together;") (by decide) dL_text_251 ?_
            refine x_goto C (tgt := 258) dL_text_253 (by decide) ?_
            obtain ⟨q39, hk52, h⟩ := Option.bind_eq_some_iff.mp h
            refine x_callVE C (As := [.ref (ek.1 16)]) (rest := []) (lw_g_mk tw_813 rfl) (lw_g_mk tw_814 rfl) (wl_ex pu_0) (C1 := "java/lang/StringBuilder") (T := TJ4) (N := 4) (ci := 1) rfl (okT_sbS l cy D B ek _ _ 16 b209.1 b209.2.1 b209.2.2 σ Y1 (by decide) _ hk52) rfl rfl (by rw [hR9]; decide) (lw_g_mk tw_815 rfl) (lw_g_mk tw_12 rfl) (by decide) rfl (lw_g_mk tw_812 rfl) rfl (Nat.le_of_ble_eq_true rfl) dL_text_258 ⟨by rw [hRc]; omega, by rw [hRs]; omega⟩ (fun v9 σ9 Y9 hp9 => ?_)
            obtain ⟨aV, e7, e8, e9⟩ := hp9
            rw [e7, e8, e9]
            refine x_pop C dL_text_261 rfl ?_
            refine x_iinc C (k := 2) [(3, .int (a183.1 + (1 : Int32))), (0, .ref (sA ek)), (2, .ref aS)] dL_text_262 rfl rfl (by decide) rfl ?_
            refine x_goto C (tgt := 183) dL_text_265 (by decide) ?_
            cases h
            refine x_widen (cells2 := ((((((((((((((0 + 1) + 1) + 1) + 66) + 1) + 1) + 1) + 1) + 1) + 1) + 1) + 1) + 1) + (9 - n183) * 19)) (slots2 := ((((((((((((((0 + 3) + 4) + 2000) + 132000) + 2000) + 2000) + 2000) + 2000) + 2000) + 2000) + 2000) + 2000) + 2000) + (9 - n183) * 38000)) (by omega) (by omega) ?_
            refine x_sub [1, 2, 0] rfl ?_
            exact hA36 (a183.1 + (1 : Int32), q39.1, q39.2.1, q39.2.2) rfl aV
    · show ∀ aV : Nat, X p l e R s m args below meth c 5 cy D B ((((((((((((((0 + 1) + 1) + 1) + 66) + 1) + 1) + 1) + 1) + 1) + 1) + 1) + 1) + 1) + 171) ((((((((((((((0 + 3) + 4) + 2000) + 132000) + 2000) + 2000) + 2000) + 2000) + 2000) + 2000) + 2000) + 2000) + 2000) + 342000) Q 268 [(2, .ref aS)] [] σ (Y1 ++ [cSB aS aV b183.2.2, cBy cy aV b183.1 b183.2.1])
      intro aV
      refine x_aload_n C dL_text_268 rfl 0 rfl ?_
      obtain ⟨q40, hk54, h⟩ := Option.bind_eq_some_iff.mp h
      refine x_callVE C (As := []) (rest := []) (lw_g_mk tw_957 rfl) (lw_g_mk tw_958 rfl) (wl_ex pu_0) (C1 := "java/lang/StringBuilder") (T := TJ4) (N := 4) (ci := 1) rfl (okT_sbStr l cy D B ek _ _ _ _ b183.1 b183.2.1 b183.2.2 σ (Y1 ++ [cSB aS aV b183.2.2, cBy cy aV b183.1 b183.2.1]) pu_0 pu_1 _ hk54) rfl rfl (by rw [hR9]; decide) (lw_g_mk tw_959 rfl) (lw_g_mk tw_12 rfl) (by decide) rfl (lw_g_mk tw_956 rfl) rfl (Nat.le_of_ble_eq_true rfl) dL_text_269 ⟨by rw [hRc]; omega, by rw [hRs]; omega⟩ (fun v9 σ9 Y9 hp9 => ?_)
      obtain ⟨aZ, aN, e7, e8, e9⟩ := hp9
      rw [List.append_assoc] at e9
      rw [e7, e8, e9]
      obtain rfl := Option.some.inj h
      rw [hY1, List.append_assoc]
      refine x_keep [_, _, _] [_, _] ?_
      exact hret aZ aN _ _ _ _ dL_text_272 (by omega) (by omega)
