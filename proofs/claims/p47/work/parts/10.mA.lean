def jJ0_isLatin1_aae02_17 : Option (Int32) := (some ((0 : Int32)))
def fJ0_isLatin1_aae02 (j : Nat) : Option (Int32) := (if (1 : Int32) = 0 then (jJ0_isLatin1_aae02_17) else (if ¬ (0 : Int32) = 0 then (jJ0_isLatin1_aae02_17) else (some ((1 : Int32)))))
set_option maxHeartbeats 4000000 in
set_option maxRecDepth 100000 in
theorem okJ0_isLatin1_aae02 (l : Launch) (cy : Nat → ClassId) (D : va_G) (B : Nat) (ek : EK) (j : Nat) (σ : Mem) (Y : va_W) (hj : j < 18) (res : Int32) (h : fJ0_isLatin1_aae02 j = some res) : CT l cy D B ek yJ0_isLatin1_aae02 cJ0_isLatin1_aae02 1 (some .boolean) ({ frames := 0, cells := 0, slots := 0, locals := 0 } : Room) [.ref (ek.1 j)] σ Y (some (.int res)) σ Y := by
  refine met_X (own := "java/lang/String") (by decide) rfl (Nat.le_of_ble_eq_true rfl) ?_
  intro p e s m args below meth c C hrT hlk
  have hret : ∀ (pc9 : Nat) (lcs9 : List (Nat × Value)), decode cJ0_isLatin1_aae02 pc9 = .ok (.ireturn, 1) → narrow .boolean (.int res) = .int res → X p l e ({ frames := 0, cells := 0, slots := 0, locals := 0 } : Room) s m args below meth c 1 cy D B 0 0 (MQ below (QR cy D B (some (.int res)) σ Y) args s 0 0 (aB B)) pc9 lcs9 [.int res] σ Y := fun _ _ hd hn => x_zret C hrT hlk hn hd
  generalize (MQ below (QR cy D B (some (.int res)) σ Y) args s 0 0 (aB B)) = Q at hret ⊢
  obtain ⟨R, hR9⟩ : ∃ R : Room, R = ({ frames := 0, cells := 0, slots := 0, locals := 0 } : Room) := ⟨_, rfl⟩
  rw [← hR9] at hret ⊢
  unfold fJ0_isLatin1_aae02 at h
  show X p l e R s m args below meth c 1 cy D B 0 0 Q 0 [(0, .ref (ek.1 j))] [] σ Y
  refine x_compact C (lw_g_mk tw_501 rfl) dJ0_isLatin1_aae02_0 ?_
  have hJ1 : ∀ (r9 : Int32), jJ0_isLatin1_aae02_17 = some r9 → (∀ (pc9 : Nat) (lcs9 : List (Nat × Value)), decode cJ0_isLatin1_aae02 pc9 = .ok (.ireturn, 1) → narrow .boolean (.int r9) = .int r9 → X p l e R s m args below meth c 1 cy D B 0 0 Q pc9 lcs9 [.int r9] σ Y) → X p l e R s m args below meth c 1 cy D B 0 0 Q 17 [] [] σ Y := by
    intro res9 h hret
    unfold jJ0_isLatin1_aae02_17 at h
    refine x_iconst C (v := 0) dJ0_isLatin1_aae02_17 (by decide) ?_
    cases h
    exact hret _ _ dJ0_isLatin1_aae02_18 (nar_Z (Or.inl rfl))
  refine x_if_eq C (tgt := 17) dJ0_isLatin1_aae02_3 (by decide) (fun hc2 => ?_) (fun hc2 => ?_)
  · rw [if_pos hc2] at h
    refine x_sub [] rfl ?_
    exact hJ1 _ h hret
  · rw [if_neg hc2] at h
    refine x_aload_n C dJ0_isLatin1_aae02_6 rfl 0 rfl ?_
    refine x_strC C (i := j) hj (lw_g_mk tw_1011 rfl) dJ0_isLatin1_aae02_7 ?_
    refine x_if_ne C (tgt := 17) dJ0_isLatin1_aae02_10 (by decide) (fun hc3 => ?_) (fun hc3 => ?_)
    · rw [if_pos hc3] at h
      refine x_sub [] rfl ?_
      exact hJ1 _ h hret
    · rw [if_neg hc3] at h
      refine x_iconst C (v := 1) dJ0_isLatin1_aae02_13 (by decide) ?_
      refine x_goto C (tgt := 18) dJ0_isLatin1_aae02_14 (by decide) ?_
      cases h
      exact hret _ _ dJ0_isLatin1_aae02_18 (nar_Z (Or.inr rfl))
def jJ3_checkIndex_8e157_9 : Option (Int32) := none
def fJ3_checkIndex_8e157 (p1 : Int32) (p2 : Int32) : Option (Int32) := (if p1 < 0 then none else (if p1 < p2 then (some p1) else none))
set_option maxHeartbeats 4000000 in
set_option maxRecDepth 100000 in
theorem okJ3_checkIndex_8e157_n (l : Launch) (cy : Nat → ClassId) (D : va_G) (B : Nat) (ek : EK) (p1 : Int32) (p2 : Int32) (σ : Mem) (Y : va_W) (res : Int32) (h : fJ3_checkIndex_8e157 p1 p2 = some res) : CT l cy D B ek yJ3_checkIndex_8e157 cJ3_checkIndex_8e157 3 (some .int) ({ frames := 0, cells := 0, slots := 0, locals := 0 } : Room) [.int p1, .int p2, .null] σ Y (some (.int res)) σ Y := by
  refine met_X (own := "jdk/internal/util/Preconditions") (by decide) rfl (Nat.le_of_ble_eq_true rfl) ?_
  intro p e s m args below meth c C hrT hlk
  have hret : ∀ (pc9 : Nat) (lcs9 : List (Nat × Value)), decode cJ3_checkIndex_8e157 pc9 = .ok (.ireturn, 1) → narrow .int (.int res) = .int res → X p l e ({ frames := 0, cells := 0, slots := 0, locals := 0 } : Room) s m args below meth c 3 cy D B 0 0 (MQ below (QR cy D B (some (.int res)) σ Y) args s 0 0 (aB B)) pc9 lcs9 [.int res] σ Y := fun _ _ hd hn => x_zret C hrT hlk hn hd
  generalize (MQ below (QR cy D B (some (.int res)) σ Y) args s 0 0 (aB B)) = Q at hret ⊢
  obtain ⟨R, hR9⟩ : ∃ R : Room, R = ({ frames := 0, cells := 0, slots := 0, locals := 0 } : Room) := ⟨_, rfl⟩
  rw [← hR9] at hret ⊢
  unfold fJ3_checkIndex_8e157 at h
  show X p l e R s m args below meth c 3 cy D B 0 0 Q 0 [(0, .int p1), (1, .int p2), (2, .null)] [] σ Y
  refine x_iload_n C dJ3_checkIndex_8e157_0 rfl 0 rfl ?_
  have hJ1 : ∀ (r9 : Int32), jJ3_checkIndex_8e157_9 = some r9 → (∀ (pc9 : Nat) (lcs9 : List (Nat × Value)), decode cJ3_checkIndex_8e157 pc9 = .ok (.ireturn, 1) → narrow .int (.int r9) = .int r9 → X p l e R s m args below meth c 3 cy D B 0 0 Q pc9 lcs9 [.int r9] σ Y) → X p l e R s m args below meth c 3 cy D B 0 0 Q 9 [(0, .int p1), (1, .int p2), (2, .null)] [] σ Y := by
    intro res9 h hret
    unfold jJ3_checkIndex_8e157_9 at h
    cases h
  refine x_if_lt C (tgt := 9) dJ3_checkIndex_8e157_1 (by decide) (fun hc2 => ?_) (fun hc2 => ?_)
  · rw [if_pos hc2] at h
    cases h
  · rw [if_neg hc2] at h
    refine x_iload_n C dJ3_checkIndex_8e157_4 rfl 0 rfl ?_
    refine x_iload_n C dJ3_checkIndex_8e157_5 rfl 1 rfl ?_
    refine x_icmp_lt C (tgt := 16) dJ3_checkIndex_8e157_6 (by decide) (fun hc3 => ?_) (fun hc3 => ?_)
    · rw [if_pos hc3] at h
      refine x_iload_n C dJ3_checkIndex_8e157_16 rfl 0 rfl ?_
      cases h
      exact hret _ _ dJ3_checkIndex_8e157_17 rfl
    · rw [if_neg hc3] at h
      cases h
set_option maxHeartbeats 4000000 in
set_option maxRecDepth 100000 in
theorem okJ3_checkIndex_8e157_r (l : Launch) (cy : Nat → ClassId) (D : va_G) (B : Nat) (ek : EK) (p1 : Int32) (p2 : Int32) (σ : Mem) (Y : va_W) (t9 : Nat) (res : Int32) (h : fJ3_checkIndex_8e157 p1 p2 = some res) : CT l cy D B ek yJ3_checkIndex_8e157 cJ3_checkIndex_8e157 3 (some .int) ({ frames := 0, cells := 0, slots := 0, locals := 0 } : Room) [.int p1, .int p2, .ref t9] σ Y (some (.int res)) σ Y := by
  refine met_X (own := "jdk/internal/util/Preconditions") (by decide) rfl (Nat.le_of_ble_eq_true rfl) ?_
  intro p e s m args below meth c C hrT hlk
  have hret : ∀ (pc9 : Nat) (lcs9 : List (Nat × Value)), decode cJ3_checkIndex_8e157 pc9 = .ok (.ireturn, 1) → narrow .int (.int res) = .int res → X p l e ({ frames := 0, cells := 0, slots := 0, locals := 0 } : Room) s m args below meth c 3 cy D B 0 0 (MQ below (QR cy D B (some (.int res)) σ Y) args s 0 0 (aB B)) pc9 lcs9 [.int res] σ Y := fun _ _ hd hn => x_zret C hrT hlk hn hd
  generalize (MQ below (QR cy D B (some (.int res)) σ Y) args s 0 0 (aB B)) = Q at hret ⊢
  obtain ⟨R, hR9⟩ : ∃ R : Room, R = ({ frames := 0, cells := 0, slots := 0, locals := 0 } : Room) := ⟨_, rfl⟩
  rw [← hR9] at hret ⊢
  unfold fJ3_checkIndex_8e157 at h
  show X p l e R s m args below meth c 3 cy D B 0 0 Q 0 [(0, .int p1), (1, .int p2), (2, .ref t9)] [] σ Y
  refine x_iload_n C dJ3_checkIndex_8e157_0 rfl 0 rfl ?_
  have hJ1 : ∀ (r9 : Int32), jJ3_checkIndex_8e157_9 = some r9 → (∀ (pc9 : Nat) (lcs9 : List (Nat × Value)), decode cJ3_checkIndex_8e157 pc9 = .ok (.ireturn, 1) → narrow .int (.int r9) = .int r9 → X p l e R s m args below meth c 3 cy D B 0 0 Q pc9 lcs9 [.int r9] σ Y) → X p l e R s m args below meth c 3 cy D B 0 0 Q 9 [(0, .int p1), (1, .int p2), (2, .ref t9)] [] σ Y := by
    intro res9 h hret
    unfold jJ3_checkIndex_8e157_9 at h
    cases h
  refine x_if_lt C (tgt := 9) dJ3_checkIndex_8e157_1 (by decide) (fun hc2 => ?_) (fun hc2 => ?_)
  · rw [if_pos hc2] at h
    cases h
  · rw [if_neg hc2] at h
    refine x_iload_n C dJ3_checkIndex_8e157_4 rfl 0 rfl ?_
    refine x_iload_n C dJ3_checkIndex_8e157_5 rfl 1 rfl ?_
    refine x_icmp_lt C (tgt := 16) dJ3_checkIndex_8e157_6 (by decide) (fun hc3 => ?_) (fun hc3 => ?_)
    · rw [if_pos hc3] at h
      refine x_iload_n C dJ3_checkIndex_8e157_16 rfl 0 rfl ?_
      cases h
      exact hret _ _ dJ3_checkIndex_8e157_17 rfl
    · rw [if_neg hc3] at h
      cases h
def fJ0_checkIndex_df160 (p1 : Int32) (p2 : Int32) : Option (Unit) := ((fJ3_checkIndex_8e157 p1 p2).bind fun q1 => (some ()))
set_option maxHeartbeats 4000000 in
set_option maxRecDepth 100000 in
theorem okJ0_checkIndex_df160 (l : Launch) (cy : Nat → ClassId) (D : va_G) (B : Nat) (ek : EK) (p1 : Int32) (p2 : Int32) (σ : Mem) (Y : va_W) (res : Unit) (h : fJ0_checkIndex_df160 p1 p2 = some res) : CT l cy D B ek yJ0_checkIndex_df160 cJ0_checkIndex_df160 2 none ({ frames := 1, cells := 0, slots := 0, locals := 22 } : Room) [.int p1, .int p2] σ Y none σ Y := by
  refine met_X (own := "java/lang/String") (by decide) rfl (Nat.le_of_ble_eq_true rfl) ?_
  intro p e s m args below meth c C hrT hlk
  have hret : ∀ (pc9 : Nat) (lcs9 : List (Nat × Value)), decode cJ0_checkIndex_df160 pc9 = .ok (.return_, 1) → X p l e ({ frames := 1, cells := 0, slots := 0, locals := 22 } : Room) s m args below meth c 2 cy D B 0 0 (MQ below (QR cy D B none σ Y) args s 0 0 (aB B)) pc9 lcs9 [] σ Y := fun _ _ hd => x_vret C hrT hlk hd
  generalize (MQ below (QR cy D B none σ Y) args s 0 0 (aB B)) = Q at hret ⊢
  obtain ⟨R, hR9⟩ : ∃ R : Room, R = ({ frames := 1, cells := 0, slots := 0, locals := 22 } : Room) := ⟨_, rfl⟩
  rw [← hR9] at hret ⊢
  unfold fJ0_checkIndex_df160 at h
  show X p l e R s m args below meth c 2 cy D B 0 0 Q 0 [(0, .int p1), (1, .int p2)] [] σ Y
  refine x_iload_n C dJ0_checkIndex_df160_0 rfl 0 rfl ?_
  refine x_iload_n C dJ0_checkIndex_df160_1 rfl 1 rfl ?_
  refine x_sioobe C (lw_g_mk tw_517 rfl) dJ0_checkIndex_df160_2 (fun v2 hv3 => ?_)
  rcases hv3 with rfl | ⟨t1, rfl⟩
  ·
    obtain ⟨q1, hk4, h⟩ := Option.bind_eq_some_iff.mp h
    refine x_callS C (As := [.int p1, .int p2, .null]) (rest := []) (lw_g_mk tw_520 rfl) (okJ3_checkIndex_8e157_n l cy D B ek p1 p2 σ Y _ hk4) rfl rfl (by rw [hR9]; decide) (lw_g_mk tw_521 rfl) (lw_g_mk tw_19 rfl) (by decide) rfl (lw_g_mk tw_519 rfl) rfl (Nat.le_of_ble_eq_true rfl) dJ0_checkIndex_df160_5 (by rw [hR9]; decide) ?_
    refine x_pop C dJ0_checkIndex_df160_8 rfl ?_
    cases h
    exact hret _ _ dJ0_checkIndex_df160_9
  ·
    obtain ⟨q1, hk5, h⟩ := Option.bind_eq_some_iff.mp h
    refine x_callS C (As := [.int p1, .int p2, .ref t1]) (rest := []) (lw_g_mk tw_520 rfl) (okJ3_checkIndex_8e157_r l cy D B ek p1 p2 σ Y t1 _ hk5) rfl rfl (by rw [hR9]; decide) (lw_g_mk tw_521 rfl) (lw_g_mk tw_19 rfl) (by decide) rfl (lw_g_mk tw_519 rfl) rfl (Nat.le_of_ble_eq_true rfl) dJ0_checkIndex_df160_5 (by rw [hR9]; decide) ?_
    refine x_pop C dJ0_checkIndex_df160_8 rfl ?_
    cases h
    exact hret _ _ dJ0_checkIndex_df160_9
def fJ1_charAt_3b067_StrV (j1 : Nat) (p2 : Int32) : Option (Int32) := ((fJ0_checkIndex_df160 p2 (Int32.ofNat (lenI.getD j1 0))).bind fun q1 => (gd (inb p2 (lenI.getD j1 0)) (gd (vp_nar .char (((((bytI.getD j1 []).getD p2.toNatClampNeg 0) &&& (255 : Int32)).toUInt32 % 65536).toInt32) = (((((bytI.getD j1 []).getD p2.toNatClampNeg 0) &&& (255 : Int32)).toUInt32 % 65536).toInt32)) (some (((((bytI.getD j1 []).getD p2.toNatClampNeg 0) &&& (255 : Int32)).toUInt32 % 65536).toInt32)))))
set_option maxHeartbeats 4000000 in
set_option maxRecDepth 100000 in
theorem okJ1_charAt_3b067_StrV (l : Launch) (cy : Nat → ClassId) (D : va_G) (B : Nat) (ek : EK) (j1 : Nat) (p2 : Int32) (σ : Mem) (Y : va_W) (hj1 : j1 < 18) (res : Int32) (h : fJ1_charAt_3b067_StrV j1 p2 = some res) : CT l cy D B ek yJ1_charAt_3b067 cJ1_charAt_3b067 2 (some .char) ({ frames := 2, cells := 0, slots := 0, locals := 43 } : Room) [.ref (ek.2.1 j1), .int p2] σ Y (some (.int res)) σ Y := by
  refine met_X (own := "java/lang/StringLatin1") (by decide) rfl (Nat.le_of_ble_eq_true rfl) ?_
  intro p e s m args below meth c C hrT hlk
  have hret : ∀ (pc9 : Nat) (lcs9 : List (Nat × Value)), decode cJ1_charAt_3b067 pc9 = .ok (.ireturn, 1) → narrow .char (.int res) = .int res → X p l e ({ frames := 2, cells := 0, slots := 0, locals := 43 } : Room) s m args below meth c 2 cy D B 0 0 (MQ below (QR cy D B (some (.int res)) σ Y) args s 0 0 (aB B)) pc9 lcs9 [.int res] σ Y := fun _ _ hd hn => x_zret C hrT hlk hn hd
  generalize (MQ below (QR cy D B (some (.int res)) σ Y) args s 0 0 (aB B)) = Q at hret ⊢
  obtain ⟨R, hR9⟩ : ∃ R : Room, R = ({ frames := 2, cells := 0, slots := 0, locals := 43 } : Room) := ⟨_, rfl⟩
  rw [← hR9] at hret ⊢
  unfold fJ1_charAt_3b067_StrV at h
  show X p l e R s m args below meth c 2 cy D B 0 0 Q 0 [(0, .ref (ek.2.1 j1)), (1, .int p2)] [] σ Y
  refine x_iload_n C dJ1_charAt_3b067_0 rfl 1 rfl ?_
  refine x_aload_n C dJ1_charAt_3b067_1 rfl 0 rfl ?_
  refine x_strL C (i := j1) hj1 dJ1_charAt_3b067_2 ?_
  obtain ⟨q1, hk1, h⟩ := Option.bind_eq_some_iff.mp h
  refine x_callS C (As := [.int p2, .int (Int32.ofNat (lenI.getD j1 0))]) (rest := []) (lw_g_mk tw_515 rfl) (okJ0_checkIndex_df160 l cy D B ek p2 (Int32.ofNat (lenI.getD j1 0)) σ Y _ hk1) rfl rfl (by rw [hR9]; decide) (lw_g_mk tw_516 rfl) (lw_g_mk tw_13 rfl) (by decide) rfl (lw_g_mk tw_514 rfl) rfl (Nat.le_of_ble_eq_true rfl) dJ1_charAt_3b067_3 (by rw [hR9]; decide) ?_
  refine x_aload_n C dJ1_charAt_3b067_6 rfl 0 rfl ?_
  refine x_iload_n C dJ1_charAt_3b067_7 rfl 1 rfl ?_
  obtain ⟨hg2, h⟩ := gd_some h
  refine x_strB C (i := j1) hj1 hg2 dJ1_charAt_3b067_8 ?_
  refine x_sipush C (v := 255) dJ1_charAt_3b067_9 (by decide) ?_
  refine x_iand C dJ1_charAt_3b067_12 ?_
  refine x_i2c C dJ1_charAt_3b067_13 ?_
  obtain ⟨hg3, h⟩ := gd_some h
  cases h
  exact hret _ _ dJ1_charAt_3b067_14 (nar_C hg3)
def fJ0_charAt_5068e (j : Nat) (p1 : Int32) : Option (Int32) := ((fJ0_isLatin1_aae02 j).bind fun q1 => (if q1 = 0 then none else ((fJ1_charAt_3b067_StrV j p1).bind fun q2 => (gd (vp_nar .char q2 = q2) (some q2)))))
set_option maxHeartbeats 4000000 in
set_option maxRecDepth 100000 in
theorem okJ0_charAt_5068e (l : Launch) (cy : Nat → ClassId) (D : va_G) (B : Nat) (ek : EK) (j : Nat) (p1 : Int32) (σ : Mem) (Y : va_W) (hj : j < 18) (res : Int32) (h : fJ0_charAt_5068e j p1 = some res) : CT l cy D B ek yJ0_charAt_5068e cJ0_charAt_5068e 2 (some .char) ({ frames := 6, cells := 0, slots := 0, locals := 120 } : Room) [.ref (ek.1 j), .int p1] σ Y (some (.int res)) σ Y := by
  refine met_X (own := "java/lang/String") (by decide) rfl (Nat.le_of_ble_eq_true rfl) ?_
  intro p e s m args below meth c C hrT hlk
  have hret : ∀ (pc9 : Nat) (lcs9 : List (Nat × Value)), decode cJ0_charAt_5068e pc9 = .ok (.ireturn, 1) → narrow .char (.int res) = .int res → X p l e ({ frames := 6, cells := 0, slots := 0, locals := 120 } : Room) s m args below meth c 2 cy D B 0 0 (MQ below (QR cy D B (some (.int res)) σ Y) args s 0 0 (aB B)) pc9 lcs9 [.int res] σ Y := fun _ _ hd hn => x_zret C hrT hlk hn hd
  generalize (MQ below (QR cy D B (some (.int res)) σ Y) args s 0 0 (aB B)) = Q at hret ⊢
  obtain ⟨R, hR9⟩ : ∃ R : Room, R = ({ frames := 6, cells := 0, slots := 0, locals := 120 } : Room) := ⟨_, rfl⟩
  rw [← hR9] at hret ⊢
  unfold fJ0_charAt_5068e at h
  show X p l e R s m args below meth c 2 cy D B 0 0 Q 0 [(0, .ref (ek.1 j)), (1, .int p1)] [] σ Y
  refine x_aload_n C dJ0_charAt_5068e_0 rfl 0 rfl ?_
  obtain ⟨q1, hk1, h⟩ := Option.bind_eq_some_iff.mp h
  refine x_callT C (As := []) (rest := []) (i := j) hj (lw_g_mk tw_508 rfl) (lw_g_mk tw_509 rfl) (okJ0_isLatin1_aae02 l cy D B ek j σ Y hj _ hk1) rfl rfl (by rw [hR9]; decide) (lw_g_mk tw_510 rfl) (lw_g_mk tw_13 rfl) (by decide) rfl (lw_g_mk tw_507 rfl) rfl (Nat.le_of_ble_eq_true rfl) dJ0_charAt_5068e_1 (by rw [hR9]; decide) ?_
  refine x_if_eq C (tgt := 16) dJ0_charAt_5068e_4 (by decide) (fun hc2 => ?_) (fun hc2 => ?_)
  · rw [if_pos hc2] at h
    refine x_aload_n C dJ0_charAt_5068e_16 rfl 0 rfl ?_
    refine x_strV C (i := j) hj (lw_g_mk tw_1010 rfl) dJ0_charAt_5068e_17 ?_
    refine x_iload_n C dJ0_charAt_5068e_20 rfl 1 rfl ?_
    cases h
  · rw [if_neg hc2] at h
    refine x_aload_n C dJ0_charAt_5068e_7 rfl 0 rfl ?_
    refine x_strV C (i := j) hj (lw_g_mk tw_1010 rfl) dJ0_charAt_5068e_8 ?_
    refine x_iload_n C dJ0_charAt_5068e_11 rfl 1 rfl ?_
    obtain ⟨q2, hk3, h⟩ := Option.bind_eq_some_iff.mp h
    refine x_callS C (As := [.ref (ek.2.1 j), .int p1]) (rest := []) (lw_g_mk tw_512 rfl) (okJ1_charAt_3b067_StrV l cy D B ek j p1 σ Y hj _ hk3) rfl rfl (by rw [hR9]; decide) (lw_g_mk tw_513 rfl) (lw_g_mk tw_20 rfl) (by decide) rfl (lw_g_mk tw_511 rfl) rfl (Nat.le_of_ble_eq_true rfl) dJ0_charAt_5068e_12 (by rw [hR9]; decide) ?_
    obtain ⟨hg4, h⟩ := gd_some h
    cases h
    exact hret _ _ dJ0_charAt_5068e_15 (nar_C hg4)
def fJ0_coder_7d493 (j : Nat) : Option (Int32) := (if (1 : Int32) = 0 then (some ((1 : Int32))) else (some ((0 : Int32))))
set_option maxHeartbeats 4000000 in
set_option maxRecDepth 100000 in
theorem okJ0_coder_7d493 (l : Launch) (cy : Nat → ClassId) (D : va_G) (B : Nat) (ek : EK) (j : Nat) (σ : Mem) (Y : va_W) (hj : j < 18) (res : Int32) (h : fJ0_coder_7d493 j = some res) : CT l cy D B ek yJ0_coder_7d493 cJ0_coder_7d493 1 (some .byte) ({ frames := 0, cells := 0, slots := 0, locals := 0 } : Room) [.ref (ek.1 j)] σ Y (some (.int res)) σ Y := by
  refine met_X (own := "java/lang/String") (by decide) rfl (Nat.le_of_ble_eq_true rfl) ?_
  intro p e s m args below meth c C hrT hlk
  have hret : ∀ (pc9 : Nat) (lcs9 : List (Nat × Value)), decode cJ0_coder_7d493 pc9 = .ok (.ireturn, 1) → narrow .byte (.int res) = .int res → X p l e ({ frames := 0, cells := 0, slots := 0, locals := 0 } : Room) s m args below meth c 1 cy D B 0 0 (MQ below (QR cy D B (some (.int res)) σ Y) args s 0 0 (aB B)) pc9 lcs9 [.int res] σ Y := fun _ _ hd hn => x_zret C hrT hlk hn hd
  generalize (MQ below (QR cy D B (some (.int res)) σ Y) args s 0 0 (aB B)) = Q at hret ⊢
  obtain ⟨R, hR9⟩ : ∃ R : Room, R = ({ frames := 0, cells := 0, slots := 0, locals := 0 } : Room) := ⟨_, rfl⟩
  rw [← hR9] at hret ⊢
  unfold fJ0_coder_7d493 at h
  show X p l e R s m args below meth c 1 cy D B 0 0 Q 0 [(0, .ref (ek.1 j))] [] σ Y
  refine x_compact C (lw_g_mk tw_501 rfl) dJ0_coder_7d493_0 ?_
  refine x_if_eq C (tgt := 13) dJ0_coder_7d493_3 (by decide) (fun hc1 => ?_) (fun hc1 => ?_)
  · rw [if_pos hc1] at h
    refine x_iconst C (v := 1) dJ0_coder_7d493_13 (by decide) ?_
    cases h
    exact hret _ _ dJ0_coder_7d493_14 rfl
  · rw [if_neg hc1] at h
    refine x_aload_n C dJ0_coder_7d493_6 rfl 0 rfl ?_
    refine x_strC C (i := j) hj (lw_g_mk tw_1011 rfl) dJ0_coder_7d493_7 ?_
    refine x_goto C (tgt := 14) dJ0_coder_7d493_10 (by decide) ?_
    cases h
    exact hret _ _ dJ0_coder_7d493_14 rfl
def fJ0_length_8abf5 (j : Nat) : Option (Int32) := ((fJ0_coder_7d493 j).bind fun q1 => (some ((Int32.ofNat (lenI.getD j 0)) >>> (q1 &&& 31))))
set_option maxHeartbeats 4000000 in
set_option maxRecDepth 100000 in
theorem okJ0_length_8abf5 (l : Launch) (cy : Nat → ClassId) (D : va_G) (B : Nat) (ek : EK) (j : Nat) (σ : Mem) (Y : va_W) (hj : j < 18) (res : Int32) (h : fJ0_length_8abf5 j = some res) : CT l cy D B ek yJ0_length_8abf5 cJ0_length_8abf5 1 (some .int) ({ frames := 1, cells := 0, slots := 0, locals := 20 } : Room) [.ref (ek.1 j)] σ Y (some (.int res)) σ Y := by
  refine met_X (own := "java/lang/String") (by decide) rfl (Nat.le_of_ble_eq_true rfl) ?_
  intro p e s m args below meth c C hrT hlk
  have hret : ∀ (pc9 : Nat) (lcs9 : List (Nat × Value)), decode cJ0_length_8abf5 pc9 = .ok (.ireturn, 1) → narrow .int (.int res) = .int res → X p l e ({ frames := 1, cells := 0, slots := 0, locals := 20 } : Room) s m args below meth c 1 cy D B 0 0 (MQ below (QR cy D B (some (.int res)) σ Y) args s 0 0 (aB B)) pc9 lcs9 [.int res] σ Y := fun _ _ hd hn => x_zret C hrT hlk hn hd
  generalize (MQ below (QR cy D B (some (.int res)) σ Y) args s 0 0 (aB B)) = Q at hret ⊢
  obtain ⟨R, hR9⟩ : ∃ R : Room, R = ({ frames := 1, cells := 0, slots := 0, locals := 20 } : Room) := ⟨_, rfl⟩
  rw [← hR9] at hret ⊢
  unfold fJ0_length_8abf5 at h
  show X p l e R s m args below meth c 1 cy D B 0 0 Q 0 [(0, .ref (ek.1 j))] [] σ Y
  refine x_aload_n C dJ0_length_8abf5_0 rfl 0 rfl ?_
  refine x_strV C (i := j) hj (lw_g_mk tw_1010 rfl) dJ0_length_8abf5_1 ?_
  refine x_strL C (i := j) hj dJ0_length_8abf5_4 ?_
  refine x_aload_n C dJ0_length_8abf5_5 rfl 0 rfl ?_
  obtain ⟨q1, hk1, h⟩ := Option.bind_eq_some_iff.mp h
  refine x_callT C (As := []) (rest := [.int (Int32.ofNat (lenI.getD j 0))]) (i := j) hj (lw_g_mk tw_498 rfl) (lw_g_mk tw_499 rfl) (okJ0_coder_7d493 l cy D B ek j σ Y hj _ hk1) rfl rfl (by rw [hR9]; decide) (lw_g_mk tw_500 rfl) (lw_g_mk tw_13 rfl) (by decide) rfl (lw_g_mk tw_497 rfl) rfl (Nat.le_of_ble_eq_true rfl) dJ0_length_8abf5_6 (by rw [hR9]; decide) ?_
  refine x_ishr C dJ0_length_8abf5_9 ?_
  cases h
  exact hret _ _ dJ0_length_8abf5_10 rfl
def jX0_staysIn_25 : Option (Int32) := (some ((0 : Int32)))
def fX0_staysIn (j : Nat) (r : Nat) (p1 : Int32) (σ : Mem) : Option (Int32) := (if p1 < (rI σ 40 j r) then (jX0_staysIn_25) else (if ((rI σ 40 j r) + (rI σ 41 j r)) ≤ p1 then (jX0_staysIn_25) else (some ((1 : Int32)))))
set_option maxHeartbeats 4000000 in
set_option maxRecDepth 100000 in
theorem okX0_staysIn (l : Launch) (cy : Nat → ClassId) (D : va_G) (B : Nat) (ek : EK) (j : Nat) (r : Nat) (p1 : Int32) (σ : Mem) (Y : va_W) (hj : j < 12) (hr : r < 17) (res : Int32) (h : fX0_staysIn j r p1 σ = some res) : CT l cy D B ek yX0_staysIn cX0_staysIn 2 (some .boolean) ({ frames := 0, cells := 0, slots := 0, locals := 0 } : Room) [.ref (B + oBk j r), .int p1] σ Y (some (.int res)) σ Y := by
  refine met_X (own := "HostelBeds$Booking") (by decide) rfl (Nat.le_of_ble_eq_true rfl) ?_
  intro p e s m args below meth c C hrT hlk
  have hret : ∀ (pc9 : Nat) (lcs9 : List (Nat × Value)), decode cX0_staysIn pc9 = .ok (.ireturn, 1) → narrow .boolean (.int res) = .int res → X p l e ({ frames := 0, cells := 0, slots := 0, locals := 0 } : Room) s m args below meth c 2 cy D B 0 0 (MQ below (QR cy D B (some (.int res)) σ Y) args s 0 0 (aB B)) pc9 lcs9 [.int res] σ Y := fun _ _ hd hn => x_zret C hrT hlk hn hd
  generalize (MQ below (QR cy D B (some (.int res)) σ Y) args s 0 0 (aB B)) = Q at hret ⊢
  obtain ⟨R, hR9⟩ : ∃ R : Room, R = ({ frames := 0, cells := 0, slots := 0, locals := 0 } : Room) := ⟨_, rfl⟩
  rw [← hR9] at hret ⊢
  unfold fX0_staysIn at h
  show X p l e R s m args below meth c 2 cy D B 0 0 Q 0 [(0, .ref (B + oBk j r)), (1, .int p1)] [] σ Y
  refine x_iload_n C dX0_staysIn_0 rfl 1 rfl ?_
  refine x_aload_n C dX0_staysIn_1 rfl 0 rfl ?_
  refine x_get C (C1 := "HostelBeds$Booking") (T := TX0) (N := 11) (ci := 2) inXg0 _ (c_Bk hj hr) rfl 1 (by decide) (lw_g_mk tw_114 rfl) rfl dX0_staysIn_2 ?_
  have hJ1 : ∀ (r9 : Int32), jX0_staysIn_25 = some r9 → (∀ (pc9 : Nat) (lcs9 : List (Nat × Value)), decode cX0_staysIn pc9 = .ok (.ireturn, 1) → narrow .boolean (.int r9) = .int r9 → X p l e R s m args below meth c 2 cy D B 0 0 Q pc9 lcs9 [.int r9] σ Y) → X p l e R s m args below meth c 2 cy D B 0 0 Q 25 [] [] σ Y := by
    intro res9 h hret
    unfold jX0_staysIn_25 at h
    refine x_iconst C (v := 0) dX0_staysIn_25 (by decide) ?_
    cases h
    exact hret _ _ dX0_staysIn_26 (nar_Z (Or.inl rfl))
  refine x_icmp_lt C (tgt := 25) dX0_staysIn_5 (by decide) (fun hc2 => ?_) (fun hc2 => ?_)
  · rw [if_pos hc2] at h
    refine x_sub [] rfl ?_
    exact hJ1 _ h hret
  · rw [if_neg hc2] at h
    refine x_iload_n C dX0_staysIn_8 rfl 1 rfl ?_
    refine x_aload_n C dX0_staysIn_9 rfl 0 rfl ?_
    refine x_get C (C1 := "HostelBeds$Booking") (T := TX0) (N := 11) (ci := 2) inXg0 _ (c_Bk hj hr) rfl 1 (by decide) (lw_g_mk tw_114 rfl) rfl dX0_staysIn_10 ?_
    refine x_aload_n C dX0_staysIn_13 rfl 0 rfl ?_
    refine x_get C (C1 := "HostelBeds$Booking") (T := TX0) (N := 11) (ci := 2) inXg0 _ (c_Bk hj hr) rfl 2 (by decide) (lw_g_mk tw_118 rfl) rfl dX0_staysIn_14 ?_
    refine x_iadd C dX0_staysIn_17 ?_
    refine x_icmp_ge C (tgt := 25) dX0_staysIn_18 (by decide) (fun hc3 => ?_) (fun hc3 => ?_)
    · rw [if_pos hc3] at h
      refine x_sub [] rfl ?_
      exact hJ1 _ h hret
    · rw [if_neg hc3] at h
      refine x_iconst C (v := 1) dX0_staysIn_21 (by decide) ?_
      refine x_goto C (tgt := 26) dX0_staysIn_22 (by decide) ?_
      cases h
      exact hret _ _ dX0_staysIn_26 (nar_Z (Or.inr rfl))
def fX0_fill (j : Nat) (r : Nat) (p1 : Int32) (p2 : Int32) (p3 : Int32) (p4 : Int32) (p5 : Int32) (p6 : Int32) (σ : Mem) : Option (Mem) := (some (wI (wI (wI (wI (wI (wI (wI (wI (wI (wJ σ 2 j r (0 : Int64)) 40 j r p1) 41 j r p2) 42 j r p3) 43 j r p4) 44 j r (p3 + p4)) 45 j r p5) 46 j r p6) 47 j r (0 : Int32)) 48 j r (0 : Int32)))
set_option maxHeartbeats 4000000 in
set_option maxRecDepth 100000 in
theorem okX0_fill (l : Launch) (cy : Nat → ClassId) (D : va_G) (B : Nat) (ek : EK) (j : Nat) (r : Nat) (p1 : Int32) (p2 : Int32) (p3 : Int32) (p4 : Int32) (p5 : Int32) (p6 : Int32) (σ : Mem) (Y : va_W) (hj : j < 12) (hr : r < 17) (res : Mem) (h : fX0_fill j r p1 p2 p3 p4 p5 p6 σ = some res) : CT l cy D B ek yX0_fill cX0_fill 7 none ({ frames := 0, cells := 0, slots := 0, locals := 0 } : Room) [.ref (B + oBk j r), .int p1, .int p2, .int p3, .int p4, .int p5, .int p6] σ Y none res Y := by
  refine met_X (own := "HostelBeds$Booking") (by decide) rfl (Nat.le_of_ble_eq_true rfl) ?_
  intro p e s m args below meth c C hrT hlk
  have hret : ∀ (pc9 : Nat) (lcs9 : List (Nat × Value)), decode cX0_fill pc9 = .ok (.return_, 1) → X p l e ({ frames := 0, cells := 0, slots := 0, locals := 0 } : Room) s m args below meth c 7 cy D B 0 0 (MQ below (QR cy D B none res Y) args s 0 0 (aB B)) pc9 lcs9 [] res Y := fun _ _ hd => x_vret C hrT hlk hd
  generalize (MQ below (QR cy D B none res Y) args s 0 0 (aB B)) = Q at hret ⊢
  obtain ⟨R, hR9⟩ : ∃ R : Room, R = ({ frames := 0, cells := 0, slots := 0, locals := 0 } : Room) := ⟨_, rfl⟩
  rw [← hR9] at hret ⊢
  unfold fX0_fill at h
  show X p l e R s m args below meth c 7 cy D B 0 0 Q 0 [(0, .ref (B + oBk j r)), (1, .int p1), (2, .int p2), (3, .int p3), (4, .int p4), (5, .int p5), (6, .int p6)] [] σ Y
  refine x_aload_n C dX0_fill_0 rfl 0 rfl ?_
  refine x_lconst C (v := 0) dX0_fill_1 (by decide) ?_
  refine x_put C (C1 := "HostelBeds$Booking") (T := TX0) (N := 11) (ci := 2) inXg0 tyX0 tyX0_ok nmX0 _ (c_Bk hj hr) rfl 0 (by decide) (lw_g_mk tw_111 rfl) rfl rfl rfl rfl (Nat.le_of_ble_eq_true rfl) dX0_fill_2 (s_Bk_name hj hr) ?_
  refine x_aload_n C dX0_fill_5 rfl 0 rfl ?_
  refine x_iload_n C dX0_fill_6 rfl 1 rfl ?_
  refine x_put C (C1 := "HostelBeds$Booking") (T := TX0) (N := 11) (ci := 2) inXg0 tyX0 tyX0_ok nmX0 _ (c_Bk hj hr) rfl 1 (by decide) (lw_g_mk tw_114 rfl) rfl rfl rfl rfl (Nat.le_of_ble_eq_true rfl) dX0_fill_7 (s_Bk_from hj hr) ?_
  refine x_aload_n C dX0_fill_10 rfl 0 rfl ?_
  refine x_iload_n C dX0_fill_11 rfl 2 rfl ?_
  refine x_put C (C1 := "HostelBeds$Booking") (T := TX0) (N := 11) (ci := 2) inXg0 tyX0 tyX0_ok nmX0 _ (c_Bk hj hr) rfl 2 (by decide) (lw_g_mk tw_118 rfl) rfl rfl rfl rfl (Nat.le_of_ble_eq_true rfl) dX0_fill_12 (s_Bk_nights hj hr) ?_
  refine x_aload_n C dX0_fill_15 rfl 0 rfl ?_
  refine x_iload_n C dX0_fill_16 rfl 3 rfl ?_
  refine x_put C (C1 := "HostelBeds$Booking") (T := TX0) (N := 11) (ci := 2) inXg0 tyX0 tyX0_ok nmX0 _ (c_Bk hj hr) rfl 3 (by decide) (lw_g_mk tw_122 rfl) rfl rfl rfl rfl (Nat.le_of_ble_eq_true rfl) dX0_fill_17 (s_Bk_women hj hr) ?_
  refine x_aload_n C dX0_fill_20 rfl 0 rfl ?_
  refine x_iload C dX0_fill_21 4 rfl ?_
  refine x_put C (C1 := "HostelBeds$Booking") (T := TX0) (N := 11) (ci := 2) inXg0 tyX0 tyX0_ok nmX0 _ (c_Bk hj hr) rfl 4 (by decide) (lw_g_mk tw_126 rfl) rfl rfl rfl rfl (Nat.le_of_ble_eq_true rfl) dX0_fill_23 (s_Bk_men hj hr) ?_
  refine x_aload_n C dX0_fill_26 rfl 0 rfl ?_
  refine x_iload_n C dX0_fill_27 rfl 3 rfl ?_
  refine x_iload C dX0_fill_28 4 rfl ?_
  refine x_iadd C dX0_fill_30 ?_
  refine x_put C (C1 := "HostelBeds$Booking") (T := TX0) (N := 11) (ci := 2) inXg0 tyX0 tyX0_ok nmX0 _ (c_Bk hj hr) rfl 5 (by decide) (lw_g_mk tw_130 rfl) rfl rfl rfl rfl (Nat.le_of_ble_eq_true rfl) dX0_fill_31 (s_Bk_persons hj hr) ?_
  refine x_aload_n C dX0_fill_34 rfl 0 rfl ?_
  refine x_iload C dX0_fill_35 5 rfl ?_
  refine x_put C (C1 := "HostelBeds$Booking") (T := TX0) (N := 11) (ci := 2) inXg0 tyX0 tyX0_ok nmX0 _ (c_Bk hj hr) rfl 6 (by decide) (lw_g_mk tw_134 rfl) rfl rfl rfl rfl (Nat.le_of_ble_eq_true rfl) dX0_fill_37 (s_Bk_age hj hr) ?_
  refine x_aload_n C dX0_fill_40 rfl 0 rfl ?_
  refine x_iload C dX0_fill_41 6 rfl ?_
  refine x_put C (C1 := "HostelBeds$Booking") (T := TX0) (N := 11) (ci := 2) inXg0 tyX0 tyX0_ok nmX0 _ (c_Bk hj hr) rfl 7 (by decide) (lw_g_mk tw_137 rfl) rfl rfl rfl rfl (Nat.le_of_ble_eq_true rfl) dX0_fill_43 (s_Bk_chance hj hr) ?_
  refine x_aload_n C dX0_fill_46 rfl 0 rfl ?_
  refine x_iconst C (v := 0) dX0_fill_47 (by decide) ?_
  refine x_put C (C1 := "HostelBeds$Booking") (T := TX0) (N := 11) (ci := 2) inXg0 tyX0 tyX0_ok nmX0 _ (c_Bk hj hr) rfl 8 (by decide) (lw_g_mk tw_139 rfl) rfl rfl (nar_Z (by decide)) (fit_Z (by decide)) (Nat.le_of_ble_eq_true rfl) dX0_fill_48 (s_Bk_together hj hr) ?_
  refine x_aload_n C dX0_fill_51 rfl 0 rfl ?_
  refine x_iconst C (v := 0) dX0_fill_52 (by decide) ?_
  refine x_put C (C1 := "HostelBeds$Booking") (T := TX0) (N := 11) (ci := 2) inXg0 tyX0 tyX0_ok nmX0 _ (c_Bk hj hr) rfl 9 (by decide) (lw_g_mk tw_143 rfl) rfl rfl (nar_Z (by decide)) (fit_Z (by decide)) (Nat.le_of_ble_eq_true rfl) dX0_fill_53 (s_Bk_absent hj hr) ?_
  cases h
  exact hret _ _ dX0_fill_56
def fX0_nightBits (j : Nat) (r : Nat) (σ : Mem) : Option (Int32) := (some ((((1 : Int32) <<< ((rI σ 41 j r) &&& 31)) - (1 : Int32)) <<< ((rI σ 40 j r) &&& 31)))
set_option maxHeartbeats 4000000 in
set_option maxRecDepth 100000 in
theorem okX0_nightBits (l : Launch) (cy : Nat → ClassId) (D : va_G) (B : Nat) (ek : EK) (j : Nat) (r : Nat) (σ : Mem) (Y : va_W) (hj : j < 12) (hr : r < 17) (res : Int32) (h : fX0_nightBits j r σ = some res) : CT l cy D B ek yX0_nightBits cX0_nightBits 1 (some .int) ({ frames := 0, cells := 0, slots := 0, locals := 0 } : Room) [.ref (B + oBk j r)] σ Y (some (.int res)) σ Y := by
  refine met_X (own := "HostelBeds$Booking") (by decide) rfl (Nat.le_of_ble_eq_true rfl) ?_
  intro p e s m args below meth c C hrT hlk
  have hret : ∀ (pc9 : Nat) (lcs9 : List (Nat × Value)), decode cX0_nightBits pc9 = .ok (.ireturn, 1) → narrow .int (.int res) = .int res → X p l e ({ frames := 0, cells := 0, slots := 0, locals := 0 } : Room) s m args below meth c 1 cy D B 0 0 (MQ below (QR cy D B (some (.int res)) σ Y) args s 0 0 (aB B)) pc9 lcs9 [.int res] σ Y := fun _ _ hd hn => x_zret C hrT hlk hn hd
  generalize (MQ below (QR cy D B (some (.int res)) σ Y) args s 0 0 (aB B)) = Q at hret ⊢
  obtain ⟨R, hR9⟩ : ∃ R : Room, R = ({ frames := 0, cells := 0, slots := 0, locals := 0 } : Room) := ⟨_, rfl⟩
  rw [← hR9] at hret ⊢
  unfold fX0_nightBits at h
  show X p l e R s m args below meth c 1 cy D B 0 0 Q 0 [(0, .ref (B + oBk j r))] [] σ Y
  refine x_iconst C (v := 1) dX0_nightBits_0 (by decide) ?_
  refine x_aload_n C dX0_nightBits_1 rfl 0 rfl ?_
  refine x_get C (C1 := "HostelBeds$Booking") (T := TX0) (N := 11) (ci := 2) inXg0 _ (c_Bk hj hr) rfl 2 (by decide) (lw_g_mk tw_118 rfl) rfl dX0_nightBits_2 ?_
  refine x_ishl C dX0_nightBits_5 ?_
  refine x_iconst C (v := 1) dX0_nightBits_6 (by decide) ?_
  refine x_isub C dX0_nightBits_7 ?_
  refine x_aload_n C dX0_nightBits_8 rfl 0 rfl ?_
  refine x_get C (C1 := "HostelBeds$Booking") (T := TX0) (N := 11) (ci := 2) inXg0 _ (c_Bk hj hr) rfl 1 (by decide) (lw_g_mk tw_114 rfl) rfl dX0_nightBits_9 ?_
  refine x_ishl C dX0_nightBits_12 ?_
  cases h
  exact hret _ _ dX0_nightBits_13 rfl
def fJ6_bitCount_0f7a4 (p1 : Int32) : Option (Int32) := (some ((((((((p1 - (((p1.toUInt32 >>> ((1 : Int32).toUInt32 &&& Int32.toUInt32 31)).toInt32) &&& (1431655765 : Int32))) &&& (858993459 : Int32)) + ((((p1 - (((p1.toUInt32 >>> ((1 : Int32).toUInt32 &&& Int32.toUInt32 31)).toInt32) &&& (1431655765 : Int32))).toUInt32 >>> ((2 : Int32).toUInt32 &&& Int32.toUInt32 31)).toInt32) &&& (858993459 : Int32))) + (((((p1 - (((p1.toUInt32 >>> ((1 : Int32).toUInt32 &&& Int32.toUInt32 31)).toInt32) &&& (1431655765 : Int32))) &&& (858993459 : Int32)) + ((((p1 - (((p1.toUInt32 >>> ((1 : Int32).toUInt32 &&& Int32.toUInt32 31)).toInt32) &&& (1431655765 : Int32))).toUInt32 >>> ((2 : Int32).toUInt32 &&& Int32.toUInt32 31)).toInt32) &&& (858993459 : Int32))).toUInt32 >>> ((4 : Int32).toUInt32 &&& Int32.toUInt32 31)).toInt32)) &&& (252645135 : Int32)) + (((((((p1 - (((p1.toUInt32 >>> ((1 : Int32).toUInt32 &&& Int32.toUInt32 31)).toInt32) &&& (1431655765 : Int32))) &&& (858993459 : Int32)) + ((((p1 - (((p1.toUInt32 >>> ((1 : Int32).toUInt32 &&& Int32.toUInt32 31)).toInt32) &&& (1431655765 : Int32))).toUInt32 >>> ((2 : Int32).toUInt32 &&& Int32.toUInt32 31)).toInt32) &&& (858993459 : Int32))) + (((((p1 - (((p1.toUInt32 >>> ((1 : Int32).toUInt32 &&& Int32.toUInt32 31)).toInt32) &&& (1431655765 : Int32))) &&& (858993459 : Int32)) + ((((p1 - (((p1.toUInt32 >>> ((1 : Int32).toUInt32 &&& Int32.toUInt32 31)).toInt32) &&& (1431655765 : Int32))).toUInt32 >>> ((2 : Int32).toUInt32 &&& Int32.toUInt32 31)).toInt32) &&& (858993459 : Int32))).toUInt32 >>> ((4 : Int32).toUInt32 &&& Int32.toUInt32 31)).toInt32)) &&& (252645135 : Int32)).toUInt32 >>> ((8 : Int32).toUInt32 &&& Int32.toUInt32 31)).toInt32)) + ((((((((p1 - (((p1.toUInt32 >>> ((1 : Int32).toUInt32 &&& Int32.toUInt32 31)).toInt32) &&& (1431655765 : Int32))) &&& (858993459 : Int32)) + ((((p1 - (((p1.toUInt32 >>> ((1 : Int32).toUInt32 &&& Int32.toUInt32 31)).toInt32) &&& (1431655765 : Int32))).toUInt32 >>> ((2 : Int32).toUInt32 &&& Int32.toUInt32 31)).toInt32) &&& (858993459 : Int32))) + (((((p1 - (((p1.toUInt32 >>> ((1 : Int32).toUInt32 &&& Int32.toUInt32 31)).toInt32) &&& (1431655765 : Int32))) &&& (858993459 : Int32)) + ((((p1 - (((p1.toUInt32 >>> ((1 : Int32).toUInt32 &&& Int32.toUInt32 31)).toInt32) &&& (1431655765 : Int32))).toUInt32 >>> ((2 : Int32).toUInt32 &&& Int32.toUInt32 31)).toInt32) &&& (858993459 : Int32))).toUInt32 >>> ((4 : Int32).toUInt32 &&& Int32.toUInt32 31)).toInt32)) &&& (252645135 : Int32)) + (((((((p1 - (((p1.toUInt32 >>> ((1 : Int32).toUInt32 &&& Int32.toUInt32 31)).toInt32) &&& (1431655765 : Int32))) &&& (858993459 : Int32)) + ((((p1 - (((p1.toUInt32 >>> ((1 : Int32).toUInt32 &&& Int32.toUInt32 31)).toInt32) &&& (1431655765 : Int32))).toUInt32 >>> ((2 : Int32).toUInt32 &&& Int32.toUInt32 31)).toInt32) &&& (858993459 : Int32))) + (((((p1 - (((p1.toUInt32 >>> ((1 : Int32).toUInt32 &&& Int32.toUInt32 31)).toInt32) &&& (1431655765 : Int32))) &&& (858993459 : Int32)) + ((((p1 - (((p1.toUInt32 >>> ((1 : Int32).toUInt32 &&& Int32.toUInt32 31)).toInt32) &&& (1431655765 : Int32))).toUInt32 >>> ((2 : Int32).toUInt32 &&& Int32.toUInt32 31)).toInt32) &&& (858993459 : Int32))).toUInt32 >>> ((4 : Int32).toUInt32 &&& Int32.toUInt32 31)).toInt32)) &&& (252645135 : Int32)).toUInt32 >>> ((8 : Int32).toUInt32 &&& Int32.toUInt32 31)).toInt32)).toUInt32 >>> ((16 : Int32).toUInt32 &&& Int32.toUInt32 31)).toInt32)) &&& (63 : Int32)))
set_option maxHeartbeats 4000000 in
set_option maxRecDepth 100000 in
theorem okJ6_bitCount_0f7a4 (l : Launch) (cy : Nat → ClassId) (D : va_G) (B : Nat) (ek : EK) (p1 : Int32) (σ : Mem) (Y : va_W) (res : Int32) (h : fJ6_bitCount_0f7a4 p1 = some res) : CT l cy D B ek yJ6_bitCount_0f7a4 cJ6_bitCount_0f7a4 1 (some .int) ({ frames := 0, cells := 0, slots := 0, locals := 0 } : Room) [.int p1] σ Y (some (.int res)) σ Y := by
  refine met_X (own := "java/lang/Integer") (by decide) rfl (Nat.le_of_ble_eq_true rfl) ?_
  intro p e s m args below meth c C hrT hlk
  have hret : ∀ (pc9 : Nat) (lcs9 : List (Nat × Value)), decode cJ6_bitCount_0f7a4 pc9 = .ok (.ireturn, 1) → narrow .int (.int res) = .int res → X p l e ({ frames := 0, cells := 0, slots := 0, locals := 0 } : Room) s m args below meth c 1 cy D B 0 0 (MQ below (QR cy D B (some (.int res)) σ Y) args s 0 0 (aB B)) pc9 lcs9 [.int res] σ Y := fun _ _ hd hn => x_zret C hrT hlk hn hd
  generalize (MQ below (QR cy D B (some (.int res)) σ Y) args s 0 0 (aB B)) = Q at hret ⊢
  obtain ⟨R, hR9⟩ : ∃ R : Room, R = ({ frames := 0, cells := 0, slots := 0, locals := 0 } : Room) := ⟨_, rfl⟩
  rw [← hR9] at hret ⊢
  unfold fJ6_bitCount_0f7a4 at h
  show X p l e R s m args below meth c 1 cy D B 0 0 Q 0 [(0, .int p1)] [] σ Y
  refine x_iload_n C dJ6_bitCount_0f7a4_0 rfl 0 rfl ?_
  refine x_iload_n C dJ6_bitCount_0f7a4_1 rfl 0 rfl ?_
  refine x_iconst C (v := 1) dJ6_bitCount_0f7a4_2 (by decide) ?_
  refine x_iushr C dJ6_bitCount_0f7a4_3 ?_
  refine x_ldcw C (v := 1431655765) (lw_g_mk tw_749 rfl) dJ6_bitCount_0f7a4_4 ?_
  refine x_iand C dJ6_bitCount_0f7a4_7 ?_
  refine x_isub C dJ6_bitCount_0f7a4_8 ?_
  refine x_istore_n C [(0, .int (p1 - (((p1.toUInt32 >>> ((1 : Int32).toUInt32 &&& Int32.toUInt32 31)).toInt32) &&& (1431655765 : Int32))))] dJ6_bitCount_0f7a4_9 rfl (by decide) rfl ?_
  refine x_iload_n C dJ6_bitCount_0f7a4_10 rfl 0 rfl ?_
  refine x_ldcw C (v := 858993459) (lw_g_mk tw_750 rfl) dJ6_bitCount_0f7a4_11 ?_
  refine x_iand C dJ6_bitCount_0f7a4_14 ?_
  refine x_iload_n C dJ6_bitCount_0f7a4_15 rfl 0 rfl ?_
  refine x_iconst C (v := 2) dJ6_bitCount_0f7a4_16 (by decide) ?_
  refine x_iushr C dJ6_bitCount_0f7a4_17 ?_
  refine x_ldcw C (v := 858993459) (lw_g_mk tw_750 rfl) dJ6_bitCount_0f7a4_18 ?_
  refine x_iand C dJ6_bitCount_0f7a4_21 ?_
  refine x_iadd C dJ6_bitCount_0f7a4_22 ?_
  refine x_istore_n C [(0, .int (((p1 - (((p1.toUInt32 >>> ((1 : Int32).toUInt32 &&& Int32.toUInt32 31)).toInt32) &&& (1431655765 : Int32))) &&& (858993459 : Int32)) + ((((p1 - (((p1.toUInt32 >>> ((1 : Int32).toUInt32 &&& Int32.toUInt32 31)).toInt32) &&& (1431655765 : Int32))).toUInt32 >>> ((2 : Int32).toUInt32 &&& Int32.toUInt32 31)).toInt32) &&& (858993459 : Int32))))] dJ6_bitCount_0f7a4_23 rfl (by decide) rfl ?_
  refine x_iload_n C dJ6_bitCount_0f7a4_24 rfl 0 rfl ?_
  refine x_iload_n C dJ6_bitCount_0f7a4_25 rfl 0 rfl ?_
  refine x_iconst C (v := 4) dJ6_bitCount_0f7a4_26 (by decide) ?_
  refine x_iushr C dJ6_bitCount_0f7a4_27 ?_
  refine x_iadd C dJ6_bitCount_0f7a4_28 ?_
  refine x_ldcw C (v := 252645135) (lw_g_mk tw_751 rfl) dJ6_bitCount_0f7a4_29 ?_
  refine x_iand C dJ6_bitCount_0f7a4_32 ?_
  refine x_istore_n C [(0, .int (((((p1 - (((p1.toUInt32 >>> ((1 : Int32).toUInt32 &&& Int32.toUInt32 31)).toInt32) &&& (1431655765 : Int32))) &&& (858993459 : Int32)) + ((((p1 - (((p1.toUInt32 >>> ((1 : Int32).toUInt32 &&& Int32.toUInt32 31)).toInt32) &&& (1431655765 : Int32))).toUInt32 >>> ((2 : Int32).toUInt32 &&& Int32.toUInt32 31)).toInt32) &&& (858993459 : Int32))) + (((((p1 - (((p1.toUInt32 >>> ((1 : Int32).toUInt32 &&& Int32.toUInt32 31)).toInt32) &&& (1431655765 : Int32))) &&& (858993459 : Int32)) + ((((p1 - (((p1.toUInt32 >>> ((1 : Int32).toUInt32 &&& Int32.toUInt32 31)).toInt32) &&& (1431655765 : Int32))).toUInt32 >>> ((2 : Int32).toUInt32 &&& Int32.toUInt32 31)).toInt32) &&& (858993459 : Int32))).toUInt32 >>> ((4 : Int32).toUInt32 &&& Int32.toUInt32 31)).toInt32)) &&& (252645135 : Int32)))] dJ6_bitCount_0f7a4_33 rfl (by decide) rfl ?_
  refine x_iload_n C dJ6_bitCount_0f7a4_34 rfl 0 rfl ?_
  refine x_iload_n C dJ6_bitCount_0f7a4_35 rfl 0 rfl ?_
  refine x_bipush C (v := 8) dJ6_bitCount_0f7a4_36 (by decide) ?_
  refine x_iushr C dJ6_bitCount_0f7a4_38 ?_
  refine x_iadd C dJ6_bitCount_0f7a4_39 ?_
  refine x_istore_n C [(0, .int ((((((p1 - (((p1.toUInt32 >>> ((1 : Int32).toUInt32 &&& Int32.toUInt32 31)).toInt32) &&& (1431655765 : Int32))) &&& (858993459 : Int32)) + ((((p1 - (((p1.toUInt32 >>> ((1 : Int32).toUInt32 &&& Int32.toUInt32 31)).toInt32) &&& (1431655765 : Int32))).toUInt32 >>> ((2 : Int32).toUInt32 &&& Int32.toUInt32 31)).toInt32) &&& (858993459 : Int32))) + (((((p1 - (((p1.toUInt32 >>> ((1 : Int32).toUInt32 &&& Int32.toUInt32 31)).toInt32) &&& (1431655765 : Int32))) &&& (858993459 : Int32)) + ((((p1 - (((p1.toUInt32 >>> ((1 : Int32).toUInt32 &&& Int32.toUInt32 31)).toInt32) &&& (1431655765 : Int32))).toUInt32 >>> ((2 : Int32).toUInt32 &&& Int32.toUInt32 31)).toInt32) &&& (858993459 : Int32))).toUInt32 >>> ((4 : Int32).toUInt32 &&& Int32.toUInt32 31)).toInt32)) &&& (252645135 : Int32)) + (((((((p1 - (((p1.toUInt32 >>> ((1 : Int32).toUInt32 &&& Int32.toUInt32 31)).toInt32) &&& (1431655765 : Int32))) &&& (858993459 : Int32)) + ((((p1 - (((p1.toUInt32 >>> ((1 : Int32).toUInt32 &&& Int32.toUInt32 31)).toInt32) &&& (1431655765 : Int32))).toUInt32 >>> ((2 : Int32).toUInt32 &&& Int32.toUInt32 31)).toInt32) &&& (858993459 : Int32))) + (((((p1 - (((p1.toUInt32 >>> ((1 : Int32).toUInt32 &&& Int32.toUInt32 31)).toInt32) &&& (1431655765 : Int32))) &&& (858993459 : Int32)) + ((((p1 - (((p1.toUInt32 >>> ((1 : Int32).toUInt32 &&& Int32.toUInt32 31)).toInt32) &&& (1431655765 : Int32))).toUInt32 >>> ((2 : Int32).toUInt32 &&& Int32.toUInt32 31)).toInt32) &&& (858993459 : Int32))).toUInt32 >>> ((4 : Int32).toUInt32 &&& Int32.toUInt32 31)).toInt32)) &&& (252645135 : Int32)).toUInt32 >>> ((8 : Int32).toUInt32 &&& Int32.toUInt32 31)).toInt32)))] dJ6_bitCount_0f7a4_40 rfl (by decide) rfl ?_
  refine x_iload_n C dJ6_bitCount_0f7a4_41 rfl 0 rfl ?_
  refine x_iload_n C dJ6_bitCount_0f7a4_42 rfl 0 rfl ?_
  refine x_bipush C (v := 16) dJ6_bitCount_0f7a4_43 (by decide) ?_
  refine x_iushr C dJ6_bitCount_0f7a4_45 ?_
  refine x_iadd C dJ6_bitCount_0f7a4_46 ?_
  refine x_istore_n C [(0, .int (((((((p1 - (((p1.toUInt32 >>> ((1 : Int32).toUInt32 &&& Int32.toUInt32 31)).toInt32) &&& (1431655765 : Int32))) &&& (858993459 : Int32)) + ((((p1 - (((p1.toUInt32 >>> ((1 : Int32).toUInt32 &&& Int32.toUInt32 31)).toInt32) &&& (1431655765 : Int32))).toUInt32 >>> ((2 : Int32).toUInt32 &&& Int32.toUInt32 31)).toInt32) &&& (858993459 : Int32))) + (((((p1 - (((p1.toUInt32 >>> ((1 : Int32).toUInt32 &&& Int32.toUInt32 31)).toInt32) &&& (1431655765 : Int32))) &&& (858993459 : Int32)) + ((((p1 - (((p1.toUInt32 >>> ((1 : Int32).toUInt32 &&& Int32.toUInt32 31)).toInt32) &&& (1431655765 : Int32))).toUInt32 >>> ((2 : Int32).toUInt32 &&& Int32.toUInt32 31)).toInt32) &&& (858993459 : Int32))).toUInt32 >>> ((4 : Int32).toUInt32 &&& Int32.toUInt32 31)).toInt32)) &&& (252645135 : Int32)) + (((((((p1 - (((p1.toUInt32 >>> ((1 : Int32).toUInt32 &&& Int32.toUInt32 31)).toInt32) &&& (1431655765 : Int32))) &&& (858993459 : Int32)) + ((((p1 - (((p1.toUInt32 >>> ((1 : Int32).toUInt32 &&& Int32.toUInt32 31)).toInt32) &&& (1431655765 : Int32))).toUInt32 >>> ((2 : Int32).toUInt32 &&& Int32.toUInt32 31)).toInt32) &&& (858993459 : Int32))) + (((((p1 - (((p1.toUInt32 >>> ((1 : Int32).toUInt32 &&& Int32.toUInt32 31)).toInt32) &&& (1431655765 : Int32))) &&& (858993459 : Int32)) + ((((p1 - (((p1.toUInt32 >>> ((1 : Int32).toUInt32 &&& Int32.toUInt32 31)).toInt32) &&& (1431655765 : Int32))).toUInt32 >>> ((2 : Int32).toUInt32 &&& Int32.toUInt32 31)).toInt32) &&& (858993459 : Int32))).toUInt32 >>> ((4 : Int32).toUInt32 &&& Int32.toUInt32 31)).toInt32)) &&& (252645135 : Int32)).toUInt32 >>> ((8 : Int32).toUInt32 &&& Int32.toUInt32 31)).toInt32)) + ((((((((p1 - (((p1.toUInt32 >>> ((1 : Int32).toUInt32 &&& Int32.toUInt32 31)).toInt32) &&& (1431655765 : Int32))) &&& (858993459 : Int32)) + ((((p1 - (((p1.toUInt32 >>> ((1 : Int32).toUInt32 &&& Int32.toUInt32 31)).toInt32) &&& (1431655765 : Int32))).toUInt32 >>> ((2 : Int32).toUInt32 &&& Int32.toUInt32 31)).toInt32) &&& (858993459 : Int32))) + (((((p1 - (((p1.toUInt32 >>> ((1 : Int32).toUInt32 &&& Int32.toUInt32 31)).toInt32) &&& (1431655765 : Int32))) &&& (858993459 : Int32)) + ((((p1 - (((p1.toUInt32 >>> ((1 : Int32).toUInt32 &&& Int32.toUInt32 31)).toInt32) &&& (1431655765 : Int32))).toUInt32 >>> ((2 : Int32).toUInt32 &&& Int32.toUInt32 31)).toInt32) &&& (858993459 : Int32))).toUInt32 >>> ((4 : Int32).toUInt32 &&& Int32.toUInt32 31)).toInt32)) &&& (252645135 : Int32)) + (((((((p1 - (((p1.toUInt32 >>> ((1 : Int32).toUInt32 &&& Int32.toUInt32 31)).toInt32) &&& (1431655765 : Int32))) &&& (858993459 : Int32)) + ((((p1 - (((p1.toUInt32 >>> ((1 : Int32).toUInt32 &&& Int32.toUInt32 31)).toInt32) &&& (1431655765 : Int32))).toUInt32 >>> ((2 : Int32).toUInt32 &&& Int32.toUInt32 31)).toInt32) &&& (858993459 : Int32))) + (((((p1 - (((p1.toUInt32 >>> ((1 : Int32).toUInt32 &&& Int32.toUInt32 31)).toInt32) &&& (1431655765 : Int32))) &&& (858993459 : Int32)) + ((((p1 - (((p1.toUInt32 >>> ((1 : Int32).toUInt32 &&& Int32.toUInt32 31)).toInt32) &&& (1431655765 : Int32))).toUInt32 >>> ((2 : Int32).toUInt32 &&& Int32.toUInt32 31)).toInt32) &&& (858993459 : Int32))).toUInt32 >>> ((4 : Int32).toUInt32 &&& Int32.toUInt32 31)).toInt32)) &&& (252645135 : Int32)).toUInt32 >>> ((8 : Int32).toUInt32 &&& Int32.toUInt32 31)).toInt32)).toUInt32 >>> ((16 : Int32).toUInt32 &&& Int32.toUInt32 31)).toInt32)))] dJ6_bitCount_0f7a4_47 rfl (by decide) rfl ?_
  refine x_iload_n C dJ6_bitCount_0f7a4_48 rfl 0 rfl ?_
  refine x_bipush C (v := 63) dJ6_bitCount_0f7a4_49 (by decide) ?_
  refine x_iand C dJ6_bitCount_0f7a4_51 ?_
  cases h
  exact hret _ _ dJ6_bitCount_0f7a4_52 rfl
def jX4_takesAll_37 : Option (Int32) := (some ((1 : Int32)))
def jX4_takesAll_41 : Option (Int32) := (some ((0 : Int32)))
def jX4_takesAll_22 (σ : Mem) (j : Nat) (r : Nat) (j1 : Nat) (r1 : Nat) : Option (Int32) := (if ¬ (rI σ 30 j r) = (2 : Int32) then (jX4_takesAll_41) else (if ¬ (rI σ 42 j1 r1) = 0 then (jX4_takesAll_41) else (jX4_takesAll_37)))
def fX4_takesAll (j : Nat) (r : Nat) (j1 : Nat) (r1 : Nat) (σ : Mem) : Option (Int32) := (if (rI σ 30 j r) = 0 then (jX4_takesAll_37) else (if ¬ (rI σ 30 j r) = (1 : Int32) then (jX4_takesAll_22 σ j r j1 r1) else (if (rI σ 43 j1 r1) = 0 then (jX4_takesAll_37) else (jX4_takesAll_22 σ j r j1 r1))))
set_option maxHeartbeats 4000000 in
set_option maxRecDepth 100000 in
theorem okX4_takesAll (l : Launch) (cy : Nat → ClassId) (D : va_G) (B : Nat) (ek : EK) (j : Nat) (r : Nat) (j1 : Nat) (r1 : Nat) (σ : Mem) (Y : va_W) (hj : j < 12) (hr : r < 8) (hj1 : j1 < 12) (hr1 : r1 < 17) (res : Int32) (h : fX4_takesAll j r j1 r1 σ = some res) : CT l cy D B ek yX4_takesAll cX4_takesAll 2 (some .boolean) ({ frames := 0, cells := 0, slots := 0, locals := 0 } : Room) [.ref (B + oRm j r), .ref (B + oBk j1 r1)] σ Y (some (.int res)) σ Y := by
  refine met_X (own := "HostelBeds$Room") (by decide) rfl (Nat.le_of_ble_eq_true rfl) ?_
  intro p e s m args below meth c C hrT hlk
  have hret : ∀ (pc9 : Nat) (lcs9 : List (Nat × Value)), decode cX4_takesAll pc9 = .ok (.ireturn, 1) → narrow .boolean (.int res) = .int res → X p l e ({ frames := 0, cells := 0, slots := 0, locals := 0 } : Room) s m args below meth c 2 cy D B 0 0 (MQ below (QR cy D B (some (.int res)) σ Y) args s 0 0 (aB B)) pc9 lcs9 [.int res] σ Y := fun _ _ hd hn => x_zret C hrT hlk hn hd
  generalize (MQ below (QR cy D B (some (.int res)) σ Y) args s 0 0 (aB B)) = Q at hret ⊢
  obtain ⟨R, hR9⟩ : ∃ R : Room, R = ({ frames := 0, cells := 0, slots := 0, locals := 0 } : Room) := ⟨_, rfl⟩
  rw [← hR9] at hret ⊢
  unfold fX4_takesAll at h
  show X p l e R s m args below meth c 2 cy D B 0 0 Q 0 [(0, .ref (B + oRm j r)), (1, .ref (B + oBk j1 r1))] [] σ Y
  refine x_aload_n C dX4_takesAll_0 rfl 0 rfl ?_
  refine x_get C (C1 := "HostelBeds$Room") (T := TX4) (N := 5) (ci := 6) inXg4 _ (c_Rm hj hr) rfl 1 (by decide) (lw_g_mk tw_81 rfl) rfl dX4_takesAll_1 ?_
  have hJ1 : ∀ (r9 : Int32), jX4_takesAll_37 = some r9 → (∀ (pc9 : Nat) (lcs9 : List (Nat × Value)), decode cX4_takesAll pc9 = .ok (.ireturn, 1) → narrow .boolean (.int r9) = .int r9 → X p l e R s m args below meth c 2 cy D B 0 0 Q pc9 lcs9 [.int r9] σ Y) → X p l e R s m args below meth c 2 cy D B 0 0 Q 37 [] [] σ Y := by
    intro res9 h hret
    unfold jX4_takesAll_37 at h
    refine x_iconst C (v := 1) dX4_takesAll_37 (by decide) ?_
    refine x_goto C (tgt := 42) dX4_takesAll_38 (by decide) ?_
    cases h
    exact hret _ _ dX4_takesAll_42 (nar_Z (Or.inr rfl))
  refine x_if_eq C (tgt := 37) dX4_takesAll_4 (by decide) (fun hc2 => ?_) (fun hc2 => ?_)
  · rw [if_pos hc2] at h
    refine x_sub [] rfl ?_
    exact hJ1 _ h hret
  · rw [if_neg hc2] at h
    refine x_aload_n C dX4_takesAll_7 rfl 0 rfl ?_
    refine x_get C (C1 := "HostelBeds$Room") (T := TX4) (N := 5) (ci := 6) inXg4 _ (c_Rm hj hr) rfl 1 (by decide) (lw_g_mk tw_81 rfl) rfl dX4_takesAll_8 ?_
    refine x_iconst C (v := 1) dX4_takesAll_11 (by decide) ?_
    have hJ6 : ∀ (r9 : Int32), jX4_takesAll_22 σ j r j1 r1 = some r9 → (∀ (pc9 : Nat) (lcs9 : List (Nat × Value)), decode cX4_takesAll pc9 = .ok (.ireturn, 1) → narrow .boolean (.int r9) = .int r9 → X p l e R s m args below meth c 2 cy D B 0 0 Q pc9 lcs9 [.int r9] σ Y) → X p l e R s m args below meth c 2 cy D B 0 0 Q 22 [(0, .ref (B + oRm j r)), (1, .ref (B + oBk j1 r1))] [] σ Y := by
      intro res9 h hret
      unfold jX4_takesAll_22 at h
      refine x_aload_n C dX4_takesAll_22 rfl 0 rfl ?_
      refine x_get C (C1 := "HostelBeds$Room") (T := TX4) (N := 5) (ci := 6) inXg4 _ (c_Rm hj hr) rfl 1 (by decide) (lw_g_mk tw_81 rfl) rfl dX4_takesAll_23 ?_
      refine x_iconst C (v := 2) dX4_takesAll_26 (by decide) ?_
      have hJ3 : ∀ (r9 : Int32), jX4_takesAll_41 = some r9 → (∀ (pc9 : Nat) (lcs9 : List (Nat × Value)), decode cX4_takesAll pc9 = .ok (.ireturn, 1) → narrow .boolean (.int r9) = .int r9 → X p l e R s m args below meth c 2 cy D B 0 0 Q pc9 lcs9 [.int r9] σ Y) → X p l e R s m args below meth c 2 cy D B 0 0 Q 41 [] [] σ Y := by
        intro res9 h hret
        unfold jX4_takesAll_41 at h
        refine x_iconst C (v := 0) dX4_takesAll_41 (by decide) ?_
        cases h
        exact hret _ _ dX4_takesAll_42 (nar_Z (Or.inl rfl))
      refine x_icmp_ne C (tgt := 41) dX4_takesAll_27 (by decide) (fun hc4 => ?_) (fun hc4 => ?_)
      · rw [if_pos hc4] at h
        refine x_sub [] rfl ?_
        exact hJ3 _ h hret
      · rw [if_neg hc4] at h
        refine x_aload_n C dX4_takesAll_30 rfl 1 rfl ?_
        refine x_get C (C1 := "HostelBeds$Booking") (T := TX0) (N := 11) (ci := 2) inXg0 _ (c_Bk hj1 hr1) rfl 3 (by decide) (lw_g_mk tw_123 rfl) rfl dX4_takesAll_31 ?_
        refine x_if_ne C (tgt := 41) dX4_takesAll_34 (by decide) (fun hc5 => ?_) (fun hc5 => ?_)
        · rw [if_pos hc5] at h
          refine x_sub [] rfl ?_
          exact hJ3 _ h hret
        · rw [if_neg hc5] at h
          refine x_sub [] rfl ?_
          exact hJ1 _ h hret
    refine x_icmp_ne C (tgt := 22) dX4_takesAll_12 (by decide) (fun hc7 => ?_) (fun hc7 => ?_)
    · rw [if_pos hc7] at h
      exact hJ6 _ h hret
    · rw [if_neg hc7] at h
      refine x_aload_n C dX4_takesAll_15 rfl 1 rfl ?_
      refine x_get C (C1 := "HostelBeds$Booking") (T := TX0) (N := 11) (ci := 2) inXg0 _ (c_Bk hj1 hr1) rfl 4 (by decide) (lw_g_mk tw_127 rfl) rfl dX4_takesAll_16 ?_
      refine x_if_eq C (tgt := 37) dX4_takesAll_19 (by decide) (fun hc8 => ?_) (fun hc8 => ?_)
      · rw [if_pos hc8] at h
        refine x_sub [] rfl ?_
        exact hJ1 _ h hret
      · rw [if_neg hc8] at h
        exact hJ6 _ h hret
