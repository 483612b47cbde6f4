def fJ0_coder_7d493_TS (nV : Nat) (fV : Nat → Int32) : Option (Int32) := (if (1 : Int32) = 0 then (some ((1 : Int32))) else (some ((0 : Int32))))
set_option maxHeartbeats 4000000 in
set_option maxRecDepth 100000 in
theorem okJ0_coder_7d493_TS (l : Launch) (cy : Nat → ClassId) (D : va_G) (B : Nat) (ek : EK) (aS : Nat) (aV : Nat) (iS : Nat) (iV : Nat) (h1V : Int32) (h2V : Int32) (nV : Nat) (fV : Nat → Int32) (σ : Mem) (Y : va_W) (hTS : Y[iS]? = some (aS, .inr (0, [.ref aV, .int 0, .int h1V, .int h2V]))) (hTV : Y[iV]? = some (aV, .inl (cy 2, nV, .inl fV))) (res : Int32) (h : fJ0_coder_7d493_TS nV fV = some res) : CT l cy D B ek yJ0_coder_7d493 cJ0_coder_7d493 1 (some .byte) ({ frames := 0, cells := 0, slots := 0, locals := 0 } : Room) [.ref aS] σ Y (some (.int res)) σ Y := by
  refine met_X (own := "java/lang/String") (by decide) rfl (Nat.le_of_ble_eq_true rfl) ?_
  intro p e s m args below meth c C hrT hlk
  have hret : ∀ (pc9 : Nat) (lcs9 : List (Nat × Value)), decode cJ0_coder_7d493 pc9 = .ok (.ireturn, 1) → narrow .byte (.int res) = .int res → X p l e ({ frames := 0, cells := 0, slots := 0, locals := 0 } : Room) s m args below meth c 1 cy D B 0 0 (MQ below (QR cy D B (some (.int res)) σ Y) args s 0 0 (aB B)) pc9 lcs9 [.int res] σ Y := fun _ _ hd hn => x_zret C hrT hlk hn hd
  generalize (MQ below (QR cy D B (some (.int res)) σ Y) args s 0 0 (aB B)) = Q at hret ⊢
  obtain ⟨R, hR9⟩ : ∃ R : Room, R = ({ frames := 0, cells := 0, slots := 0, locals := 0 } : Room) := ⟨_, rfl⟩
  rw [← hR9] at hret ⊢
  unfold fJ0_coder_7d493_TS at h
  show X p l e R s m args below meth c 1 cy D B 0 0 Q 0 [(0, .ref aS)] [] σ Y
  refine x_compact C (lw_g_mk tw_501 rfl) dJ0_coder_7d493_0 ?_
  refine x_if_eq C (tgt := 13) dJ0_coder_7d493_3 (by decide) (fun hc1 => ?_) (fun hc1 => ?_)
  · rw [if_pos hc1] at h
    refine x_iconst C (v := 1) dJ0_coder_7d493_13 (by decide) ?_
    cases h
    exact hret _ _ dJ0_coder_7d493_14 rfl
  · rw [if_neg hc1] at h
    refine x_aload_n C dJ0_coder_7d493_6 rfl 0 rfl ?_
    refine x_get C (C1 := "java/lang/String") (T := TJ0) (N := 4) (ci := 0) inJg0 _ (wl_ex hTS) rfl 1 (by decide) (lw_g_mk tw_1011 rfl) rfl dJ0_coder_7d493_7 ?_
    refine x_goto C (tgt := 14) dJ0_coder_7d493_10 (by decide) ?_
    cases h
    exact hret _ _ dJ0_coder_7d493_14 rfl
def fJ0_length_8abf5_TS (nV : Nat) (fV : Nat → Int32) : Option (Int32) := ((fJ0_coder_7d493_TS nV fV).bind fun q1 => (some ((Int32.ofNat nV) >>> (q1 &&& 31))))
set_option maxHeartbeats 4000000 in
set_option maxRecDepth 100000 in
theorem okJ0_length_8abf5_TS (l : Launch) (cy : Nat → ClassId) (D : va_G) (B : Nat) (ek : EK) (aS : Nat) (aV : Nat) (iS : Nat) (iV : Nat) (h1V : Int32) (h2V : Int32) (nV : Nat) (fV : Nat → Int32) (σ : Mem) (Y : va_W) (hTS : Y[iS]? = some (aS, .inr (0, [.ref aV, .int 0, .int h1V, .int h2V]))) (hTV : Y[iV]? = some (aV, .inl (cy 2, nV, .inl fV))) (res : Int32) (h : fJ0_length_8abf5_TS nV fV = some res) : CT l cy D B ek yJ0_length_8abf5 cJ0_length_8abf5 1 (some .int) ({ frames := 1, cells := 0, slots := 0, locals := 20 } : Room) [.ref aS] σ Y (some (.int res)) σ Y := by
  refine met_X (own := "java/lang/String") (by decide) rfl (Nat.le_of_ble_eq_true rfl) ?_
  intro p e s m args below meth c C hrT hlk
  have hret : ∀ (pc9 : Nat) (lcs9 : List (Nat × Value)), decode cJ0_length_8abf5 pc9 = .ok (.ireturn, 1) → narrow .int (.int res) = .int res → X p l e ({ frames := 1, cells := 0, slots := 0, locals := 20 } : Room) s m args below meth c 1 cy D B 0 0 (MQ below (QR cy D B (some (.int res)) σ Y) args s 0 0 (aB B)) pc9 lcs9 [.int res] σ Y := fun _ _ hd hn => x_zret C hrT hlk hn hd
  generalize (MQ below (QR cy D B (some (.int res)) σ Y) args s 0 0 (aB B)) = Q at hret ⊢
  obtain ⟨R, hR9⟩ : ∃ R : Room, R = ({ frames := 1, cells := 0, slots := 0, locals := 20 } : Room) := ⟨_, rfl⟩
  rw [← hR9] at hret ⊢
  unfold fJ0_length_8abf5_TS at h
  show X p l e R s m args below meth c 1 cy D B 0 0 Q 0 [(0, .ref aS)] [] σ Y
  refine x_aload_n C dJ0_length_8abf5_0 rfl 0 rfl ?_
  refine x_get C (C1 := "java/lang/String") (T := TJ0) (N := 4) (ci := 0) inJg0 _ (wl_ex hTS) rfl 0 (by decide) (lw_g_mk tw_1010 rfl) rfl dJ0_length_8abf5_1 ?_
  refine x_alen C _ 2 (wl_ex hTV) rfl (v := Int32.ofNat nV) rfl dJ0_length_8abf5_4 ?_
  refine x_aload_n C dJ0_length_8abf5_5 rfl 0 rfl ?_
  obtain ⟨q1, hk1, h⟩ := Option.bind_eq_some_iff.mp h
  refine x_callV C (As := []) (rest := [.int (Int32.ofNat nV)]) (lw_g_mk tw_498 rfl) (lw_g_mk tw_499 rfl) (wl_ex hTS) (C1 := "java/lang/String") (T := TJ0) (N := 4) (ci := 0) rfl (okJ0_coder_7d493_TS l cy D B ek _ _ _ _ _ _ nV fV σ Y hTS hTV _ hk1) rfl rfl (by rw [hR9]; decide) (lw_g_mk tw_500 rfl) (lw_g_mk tw_13 rfl) (by decide) rfl (lw_g_mk tw_497 rfl) rfl (Nat.le_of_ble_eq_true rfl) dJ0_length_8abf5_6 (by rw [hR9]; decide) ?_
  refine x_ishr C dJ0_length_8abf5_9 ?_
  cases h
  exact hret _ _ dJ0_length_8abf5_10 rfl
def jJ0_isLatin1_aae02_TS_17 : Option (Int32) := (some ((0 : Int32)))
def fJ0_isLatin1_aae02_TS (nV : Nat) (fV : Nat → Int32) : Option (Int32) := (if (1 : Int32) = 0 then (jJ0_isLatin1_aae02_TS_17) else (if ¬ (0 : Int32) = 0 then (jJ0_isLatin1_aae02_TS_17) else (some ((1 : Int32)))))
set_option maxHeartbeats 4000000 in
set_option maxRecDepth 100000 in
theorem okJ0_isLatin1_aae02_TS (l : Launch) (cy : Nat → ClassId) (D : va_G) (B : Nat) (ek : EK) (aS : Nat) (aV : Nat) (iS : Nat) (iV : Nat) (h1V : Int32) (h2V : Int32) (nV : Nat) (fV : Nat → Int32) (σ : Mem) (Y : va_W) (hTS : Y[iS]? = some (aS, .inr (0, [.ref aV, .int 0, .int h1V, .int h2V]))) (hTV : Y[iV]? = some (aV, .inl (cy 2, nV, .inl fV))) (res : Int32) (h : fJ0_isLatin1_aae02_TS nV fV = some res) : CT l cy D B ek yJ0_isLatin1_aae02 cJ0_isLatin1_aae02 1 (some .boolean) ({ frames := 0, cells := 0, slots := 0, locals := 0 } : Room) [.ref aS] σ Y (some (.int res)) σ Y := by
  refine met_X (own := "java/lang/String") (by decide) rfl (Nat.le_of_ble_eq_true rfl) ?_
  intro p e s m args below meth c C hrT hlk
  have hret : ∀ (pc9 : Nat) (lcs9 : List (Nat × Value)), decode cJ0_isLatin1_aae02 pc9 = .ok (.ireturn, 1) → narrow .boolean (.int res) = .int res → X p l e ({ frames := 0, cells := 0, slots := 0, locals := 0 } : Room) s m args below meth c 1 cy D B 0 0 (MQ below (QR cy D B (some (.int res)) σ Y) args s 0 0 (aB B)) pc9 lcs9 [.int res] σ Y := fun _ _ hd hn => x_zret C hrT hlk hn hd
  generalize (MQ below (QR cy D B (some (.int res)) σ Y) args s 0 0 (aB B)) = Q at hret ⊢
  obtain ⟨R, hR9⟩ : ∃ R : Room, R = ({ frames := 0, cells := 0, slots := 0, locals := 0 } : Room) := ⟨_, rfl⟩
  rw [← hR9] at hret ⊢
  unfold fJ0_isLatin1_aae02_TS at h
  show X p l e R s m args below meth c 1 cy D B 0 0 Q 0 [(0, .ref aS)] [] σ Y
  refine x_compact C (lw_g_mk tw_501 rfl) dJ0_isLatin1_aae02_0 ?_
  have hJ1 : ∀ (r9 : Int32), jJ0_isLatin1_aae02_TS_17 = some r9 → (∀ (pc9 : Nat) (lcs9 : List (Nat × Value)), decode cJ0_isLatin1_aae02 pc9 = .ok (.ireturn, 1) → narrow .boolean (.int r9) = .int r9 → X p l e R s m args below meth c 1 cy D B 0 0 Q pc9 lcs9 [.int r9] σ Y) → X p l e R s m args below meth c 1 cy D B 0 0 Q 17 [] [] σ Y := by
    intro res9 h hret
    unfold jJ0_isLatin1_aae02_TS_17 at h
    refine x_iconst C (v := 0) dJ0_isLatin1_aae02_17 (by decide) ?_
    cases h
    exact hret _ _ dJ0_isLatin1_aae02_18 (nar_Z (Or.inl rfl))
  refine x_if_eq C (tgt := 17) dJ0_isLatin1_aae02_3 (by decide) (fun hc2 => ?_) (fun hc2 => ?_)
  · rw [if_pos hc2] at h
    refine x_sub [] rfl ?_
    exact hJ1 _ h hret
  · rw [if_neg hc2] at h
    refine x_aload_n C dJ0_isLatin1_aae02_6 rfl 0 rfl ?_
    refine x_get C (C1 := "java/lang/String") (T := TJ0) (N := 4) (ci := 0) inJg0 _ (wl_ex hTS) rfl 1 (by decide) (lw_g_mk tw_1011 rfl) rfl dJ0_isLatin1_aae02_7 ?_
    refine x_if_ne C (tgt := 17) dJ0_isLatin1_aae02_10 (by decide) (fun hc3 => ?_) (fun hc3 => ?_)
    · rw [if_pos hc3] at h
      refine x_sub [] rfl ?_
      exact hJ1 _ h hret
    · rw [if_neg hc3] at h
      refine x_iconst C (v := 1) dJ0_isLatin1_aae02_13 (by decide) ?_
      refine x_goto C (tgt := 18) dJ0_isLatin1_aae02_14 (by decide) ?_
      cases h
      exact hret _ _ dJ0_isLatin1_aae02_18 (nar_Z (Or.inr rfl))
def fJ1_charAt_3b067_TV (nV : Nat) (fV : Nat → Int32) (p2 : Int32) : Option (Int32) := ((fJ0_checkIndex_df160 p2 (Int32.ofNat nV)).bind fun q1 => (gd (inb p2 nV) (gd (vp_nar .char ((((fV p2.toNatClampNeg) &&& (255 : Int32)).toUInt32 % 65536).toInt32) = ((((fV p2.toNatClampNeg) &&& (255 : Int32)).toUInt32 % 65536).toInt32)) (some ((((fV p2.toNatClampNeg) &&& (255 : Int32)).toUInt32 % 65536).toInt32)))))
set_option maxHeartbeats 4000000 in
set_option maxRecDepth 100000 in
theorem okJ1_charAt_3b067_TV (l : Launch) (cy : Nat → ClassId) (D : va_G) (B : Nat) (ek : EK) (aV : Nat) (iV : Nat) (nV : Nat) (fV : Nat → Int32) (p2 : Int32) (σ : Mem) (Y : va_W) (hTV : Y[iV]? = some (aV, .inl (cy 2, nV, .inl fV))) (res : Int32) (h : fJ1_charAt_3b067_TV nV fV p2 = some res) : CT l cy D B ek yJ1_charAt_3b067 cJ1_charAt_3b067 2 (some .char) ({ frames := 2, cells := 0, slots := 0, locals := 43 } : Room) [.ref aV, .int p2] σ Y (some (.int res)) σ Y := by
  refine met_X (own := "java/lang/StringLatin1") (by decide) rfl (Nat.le_of_ble_eq_true rfl) ?_
  intro p e s m args below meth c C hrT hlk
  have hret : ∀ (pc9 : Nat) (lcs9 : List (Nat × Value)), decode cJ1_charAt_3b067 pc9 = .ok (.ireturn, 1) → narrow .char (.int res) = .int res → X p l e ({ frames := 2, cells := 0, slots := 0, locals := 43 } : Room) s m args below meth c 2 cy D B 0 0 (MQ below (QR cy D B (some (.int res)) σ Y) args s 0 0 (aB B)) pc9 lcs9 [.int res] σ Y := fun _ _ hd hn => x_zret C hrT hlk hn hd
  generalize (MQ below (QR cy D B (some (.int res)) σ Y) args s 0 0 (aB B)) = Q at hret ⊢
  obtain ⟨R, hR9⟩ : ∃ R : Room, R = ({ frames := 2, cells := 0, slots := 0, locals := 43 } : Room) := ⟨_, rfl⟩
  rw [← hR9] at hret ⊢
  unfold fJ1_charAt_3b067_TV at h
  show X p l e R s m args below meth c 2 cy D B 0 0 Q 0 [(0, .ref aV), (1, .int p2)] [] σ Y
  refine x_iload_n C dJ1_charAt_3b067_0 rfl 1 rfl ?_
  refine x_aload_n C dJ1_charAt_3b067_1 rfl 0 rfl ?_
  refine x_alen C _ 2 (wl_ex hTV) rfl (v := Int32.ofNat nV) rfl dJ1_charAt_3b067_2 ?_
  obtain ⟨q1, hk1, h⟩ := Option.bind_eq_some_iff.mp h
  refine x_callS C (As := [.int p2, .int (Int32.ofNat nV)]) (rest := []) (lw_g_mk tw_515 rfl) (okJ0_checkIndex_df160 l cy D B ek p2 (Int32.ofNat nV) σ Y _ hk1) rfl rfl (by rw [hR9]; decide) (lw_g_mk tw_516 rfl) (lw_g_mk tw_13 rfl) (by decide) rfl (lw_g_mk tw_514 rfl) rfl (Nat.le_of_ble_eq_true rfl) dJ1_charAt_3b067_3 (by rw [hR9]; decide) ?_
  refine x_aload_n C dJ1_charAt_3b067_6 rfl 0 rfl ?_
  refine x_iload_n C dJ1_charAt_3b067_7 rfl 1 rfl ?_
  obtain ⟨hg2, h⟩ := gd_some h
  refine x_bald C _ (wl_ex hTV) hg2 dJ1_charAt_3b067_8 ?_
  refine x_sipush C (v := 255) dJ1_charAt_3b067_9 (by decide) ?_
  refine x_iand C dJ1_charAt_3b067_12 ?_
  refine x_i2c C dJ1_charAt_3b067_13 ?_
  obtain ⟨hg3, h⟩ := gd_some h
  cases h
  exact hret _ _ dJ1_charAt_3b067_14 (nar_C hg3)
def fJ0_charAt_5068e_TS (nV : Nat) (fV : Nat → Int32) (p1 : Int32) : Option (Int32) := ((fJ0_isLatin1_aae02_TS nV fV).bind fun q1 => (if q1 = 0 then none else ((fJ1_charAt_3b067_TV nV fV p1).bind fun q2 => (gd (vp_nar .char q2 = q2) (some q2)))))
set_option maxHeartbeats 4000000 in
set_option maxRecDepth 100000 in
theorem okJ0_charAt_5068e_TS (l : Launch) (cy : Nat → ClassId) (D : va_G) (B : Nat) (ek : EK) (aS : Nat) (aV : Nat) (iS : Nat) (iV : Nat) (h1V : Int32) (h2V : Int32) (nV : Nat) (fV : Nat → Int32) (p1 : Int32) (σ : Mem) (Y : va_W) (hTS : Y[iS]? = some (aS, .inr (0, [.ref aV, .int 0, .int h1V, .int h2V]))) (hTV : Y[iV]? = some (aV, .inl (cy 2, nV, .inl fV))) (res : Int32) (h : fJ0_charAt_5068e_TS nV fV p1 = some res) : CT l cy D B ek yJ0_charAt_5068e cJ0_charAt_5068e 2 (some .char) ({ frames := 6, cells := 0, slots := 0, locals := 120 } : Room) [.ref aS, .int p1] σ Y (some (.int res)) σ Y := by
  refine met_X (own := "java/lang/String") (by decide) rfl (Nat.le_of_ble_eq_true rfl) ?_
  intro p e s m args below meth c C hrT hlk
  have hret : ∀ (pc9 : Nat) (lcs9 : List (Nat × Value)), decode cJ0_charAt_5068e pc9 = .ok (.ireturn, 1) → narrow .char (.int res) = .int res → X p l e ({ frames := 6, cells := 0, slots := 0, locals := 120 } : Room) s m args below meth c 2 cy D B 0 0 (MQ below (QR cy D B (some (.int res)) σ Y) args s 0 0 (aB B)) pc9 lcs9 [.int res] σ Y := fun _ _ hd hn => x_zret C hrT hlk hn hd
  generalize (MQ below (QR cy D B (some (.int res)) σ Y) args s 0 0 (aB B)) = Q at hret ⊢
  obtain ⟨R, hR9⟩ : ∃ R : Room, R = ({ frames := 6, cells := 0, slots := 0, locals := 120 } : Room) := ⟨_, rfl⟩
  rw [← hR9] at hret ⊢
  unfold fJ0_charAt_5068e_TS at h
  show X p l e R s m args below meth c 2 cy D B 0 0 Q 0 [(0, .ref aS), (1, .int p1)] [] σ Y
  refine x_aload_n C dJ0_charAt_5068e_0 rfl 0 rfl ?_
  obtain ⟨q1, hk1, h⟩ := Option.bind_eq_some_iff.mp h
  refine x_callV C (As := []) (rest := []) (lw_g_mk tw_508 rfl) (lw_g_mk tw_509 rfl) (wl_ex hTS) (C1 := "java/lang/String") (T := TJ0) (N := 4) (ci := 0) rfl (okJ0_isLatin1_aae02_TS l cy D B ek _ _ _ _ _ _ nV fV σ Y hTS hTV _ hk1) rfl rfl (by rw [hR9]; decide) (lw_g_mk tw_510 rfl) (lw_g_mk tw_13 rfl) (by decide) rfl (lw_g_mk tw_507 rfl) rfl (Nat.le_of_ble_eq_true rfl) dJ0_charAt_5068e_1 (by rw [hR9]; decide) ?_
  refine x_if_eq C (tgt := 16) dJ0_charAt_5068e_4 (by decide) (fun hc2 => ?_) (fun hc2 => ?_)
  · rw [if_pos hc2] at h
    refine x_aload_n C dJ0_charAt_5068e_16 rfl 0 rfl ?_
    refine x_get C (C1 := "java/lang/String") (T := TJ0) (N := 4) (ci := 0) inJg0 _ (wl_ex hTS) rfl 0 (by decide) (lw_g_mk tw_1010 rfl) rfl dJ0_charAt_5068e_17 ?_
    refine x_iload_n C dJ0_charAt_5068e_20 rfl 1 rfl ?_
    cases h
  · rw [if_neg hc2] at h
    refine x_aload_n C dJ0_charAt_5068e_7 rfl 0 rfl ?_
    refine x_get C (C1 := "java/lang/String") (T := TJ0) (N := 4) (ci := 0) inJg0 _ (wl_ex hTS) rfl 0 (by decide) (lw_g_mk tw_1010 rfl) rfl dJ0_charAt_5068e_8 ?_
    refine x_iload_n C dJ0_charAt_5068e_11 rfl 1 rfl ?_
    obtain ⟨q2, hk3, h⟩ := Option.bind_eq_some_iff.mp h
    refine x_callS C (As := [.ref aV, .int p1]) (rest := []) (lw_g_mk tw_512 rfl) (okJ1_charAt_3b067_TV l cy D B ek _ _ nV fV p1 σ Y hTV _ hk3) rfl rfl (by rw [hR9]; decide) (lw_g_mk tw_513 rfl) (lw_g_mk tw_20 rfl) (by decide) rfl (lw_g_mk tw_511 rfl) rfl (Nat.le_of_ble_eq_true rfl) dJ0_charAt_5068e_12 (by rw [hR9]; decide) ?_
    obtain ⟨hg4, h⟩ := gd_some h
    cases h
    exact hret _ _ dJ0_charAt_5068e_15 (nar_C hg4)
