def jX6_keep_32 (μ1 : Mem) : Option (Mem) := ((fX6_slot (rI μ1 63 0 0) μ1).bind fun q2 => ((fX6_copyRow (0 : Int32) q2 μ1).bind fun q3 => (some (wI q3 63 0 0 ((rI q3 63 0 0) + (1 : Int32))))))
def fX6_keep (μ : Mem) : Option (Mem) := (if ¬ (rI μ 63 0 0) = (10 : Int32) then (jX6_keep_32 μ) else (jX6_keep_32 (wI (wI μ 64 0 0 (((rI μ 64 0 0) + (1 : Int32)) - ((rI μ 64 0 0) + (1 : Int32)) / (10 : Int32) * (10 : Int32))) 63 0 0 ((rI (wI μ 64 0 0 (((rI μ 64 0 0) + (1 : Int32)) - ((rI μ 64 0 0) + (1 : Int32)) / (10 : Int32) * (10 : Int32))) 63 0 0) - (1 : Int32)))))
set_option maxHeartbeats 4000000 in
set_option maxRecDepth 100000 in
theorem okX6_keep (l : Launch) (cy : Nat → ClassId) (D : va_G) (B : Nat) (ek : EK) (σ μ ω : Mem) (res : Mem) (h : fX6_keep μ = some res) : CT l cy D B ek yX6_keep cX6_keep 1 none ({ frames := 1, cells := 0, slots := 0, locals := 23 } : Room) [.ref (B + oMd)] σ μ ω none σ res ω := by
  refine met_X (own := "HostelBedsModel") (by decide) rfl (Nat.le_of_ble_eq_true rfl) ?_
  intro p e s m args below meth c C hrT hlk
  have hret : ∀ (pc9 : Nat) (lcs9 : List (Nat × Value)), decode cX6_keep pc9 = .ok (.return_, 1) → X p l e ({ frames := 1, cells := 0, slots := 0, locals := 23 } : Room) s m args below meth c 1 cy D B 0 0 (MQ below (QR cy D B none σ res ω) args s 0 0 (aB B)) pc9 lcs9 [] σ res ω := fun _ _ hd => x_vret C hrT hlk hd
  generalize (MQ below (QR cy D B none σ res ω) args s 0 0 (aB B)) = Q at hret ⊢
  obtain ⟨R, hR9⟩ : ∃ R : Room, R = ({ frames := 1, cells := 0, slots := 0, locals := 23 } : Room) := ⟨_, rfl⟩
  rw [← hR9] at hret ⊢
  unfold fX6_keep at h
  show X p l e R s m args below meth c 1 cy D B 0 0 Q 0 [(0, .ref (B + oMd))] [] σ μ ω
  refine x_aload_n C dX6_keep_0 rfl 0 rfl ?_
  refine x_get C (C1 := "HostelBedsModel") (T := TX6) (N := 27) (ci := 6) inXg6 _ (c_Md) rfl 3 (by decide) (lw_g_mk tw_1134 rfl) rfl dX6_keep_1 ?_
  refine x_bipush C (v := 10) dX6_keep_4 (by decide) ?_
  have hJ3 : ∀ (μ1 : Mem) (r9 : Mem), jX6_keep_32 μ1 = some r9 → (∀ (pc9 : Nat) (lcs9 : List (Nat × Value)), decode cX6_keep pc9 = .ok (.return_, 1) → X p l e R s m args below meth c 1 cy D B 0 0 Q pc9 lcs9 [] σ r9 ω) → X p l e R s m args below meth c 1 cy D B 0 0 Q 32 [(0, .ref (B + oMd))] [] σ μ1 ω := by
    intro μ1 res9 h hret
    unfold jX6_keep_32 at h
    refine x_aload_n C dX6_keep_32 rfl 0 rfl ?_
    refine x_iconst C (v := 0) dX6_keep_33 (by decide) ?_
    refine x_aload_n C dX6_keep_34 rfl 0 rfl ?_
    refine x_aload_n C dX6_keep_35 rfl 0 rfl ?_
    refine x_get C (C1 := "HostelBedsModel") (T := TX6) (N := 27) (ci := 6) inXg6 _ (c_Md) rfl 3 (by decide) (lw_g_mk tw_1134 rfl) rfl dX6_keep_36 ?_
    obtain ⟨q2, hk1, h⟩ := Option.bind_eq_some_iff.mp h
    refine x_callV C (As := [.int (rI μ1 63 0 0)]) (rest := [.int (0 : Int32), .ref (B + oMd)]) (lw_g_mk tw_1667 rfl) (lw_g_mk tsel_87 rfl) (c_Md) (C1 := "HostelBedsModel") (T := TX6) (N := 27) (ci := 6) rfl (okX6_slot l cy D B ek (rI μ1 63 0 0) σ μ1 ω _ hk1) rfl rfl (by rw [hR9]; decide) (lw_g_mk tw_1668 rfl) (lw_g_mk tw_7 rfl) (by decide) rfl (lw_g_mk tw_1665 rfl) rfl (Nat.le_of_ble_eq_true rfl) dX6_keep_39 (by rw [hR9]; decide) ?_
    obtain ⟨q3, hk2, h⟩ := Option.bind_eq_some_iff.mp h
    refine x_callV C (As := [.int (0 : Int32), .int q2]) (rest := []) (lw_g_mk tw_1129 rfl) (lw_g_mk tsel_17 rfl) (c_Md) (C1 := "HostelBedsModel") (T := TX6) (N := 27) (ci := 6) rfl (okX6_copyRow l cy D B ek (0 : Int32) q2 σ μ1 ω _ hk2) rfl rfl (by rw [hR9]; decide) (lw_g_mk tw_1130 rfl) (lw_g_mk tw_7 rfl) (by decide) rfl (lw_g_mk tw_1127 rfl) rfl (Nat.le_of_ble_eq_true rfl) dX6_keep_42 (by rw [hR9]; decide) ?_
    refine x_aload_n C dX6_keep_45 rfl 0 rfl ?_
    refine x_dup C dX6_keep_46 rfl ?_
    refine x_get C (C1 := "HostelBedsModel") (T := TX6) (N := 27) (ci := 6) inXg6 _ (c_Md) rfl 3 (by decide) (lw_g_mk tw_1134 rfl) rfl dX6_keep_47 ?_
    refine x_iconst C (v := 1) dX6_keep_50 (by decide) ?_
    refine x_iadd C dX6_keep_51 ?_
    refine x_put C (C1 := "HostelBedsModel") (T := TX6) (N := 27) (ci := 6) inXg6 tyX6 tyX6_ok nmX6 _ (c_Md) rfl 3 (by decide) (lw_g_mk tw_1134 rfl) rfl rfl rfl rfl (Nat.le_of_ble_eq_true rfl) dX6_keep_52 (s_Md_edits) ?_
    cases h
    exact hret _ _ dX6_keep_55
  refine x_icmp_ne C (tgt := 32) dX6_keep_6 (by decide) (fun hc4 => ?_) (fun hc4 => ?_)
  · rw [if_pos hc4] at h
    exact hJ3 μ _ h hret
  · rw [if_neg hc4] at h
    refine x_aload_n C dX6_keep_9 rfl 0 rfl ?_
    refine x_aload_n C dX6_keep_10 rfl 0 rfl ?_
    refine x_get C (C1 := "HostelBedsModel") (T := TX6) (N := 27) (ci := 6) inXg6 _ (c_Md) rfl 4 (by decide) (lw_g_mk tw_1135 rfl) rfl dX6_keep_11 ?_
    refine x_iconst C (v := 1) dX6_keep_14 (by decide) ?_
    refine x_iadd C dX6_keep_15 ?_
    refine x_bipush C (v := 10) dX6_keep_16 (by decide) ?_
    refine x_irem C dX6_keep_18 (by decide) ?_
    refine x_put C (C1 := "HostelBedsModel") (T := TX6) (N := 27) (ci := 6) inXg6 tyX6 tyX6_ok nmX6 _ (c_Md) rfl 4 (by decide) (lw_g_mk tw_1135 rfl) rfl rfl rfl rfl (Nat.le_of_ble_eq_true rfl) dX6_keep_19 (s_Md_firstEdit) ?_
    refine x_aload_n C dX6_keep_22 rfl 0 rfl ?_
    refine x_dup C dX6_keep_23 rfl ?_
    refine x_get C (C1 := "HostelBedsModel") (T := TX6) (N := 27) (ci := 6) inXg6 _ (c_Md) rfl 3 (by decide) (lw_g_mk tw_1134 rfl) rfl dX6_keep_24 ?_
    refine x_iconst C (v := 1) dX6_keep_27 (by decide) ?_
    refine x_isub C dX6_keep_28 ?_
    refine x_put C (C1 := "HostelBedsModel") (T := TX6) (N := 27) (ci := 6) inXg6 tyX6 tyX6_ok nmX6 _ (c_Md) rfl 3 (by decide) (lw_g_mk tw_1134 rfl) rfl rfl rfl rfl (Nat.le_of_ble_eq_true rfl) dX6_keep_29 (s_Md_edits) ?_
    exact hJ3 (wI (wI μ 64 0 0 (((rI μ 64 0 0) + (1 : Int32)) - ((rI μ 64 0 0) + (1 : Int32)) / (10 : Int32) * (10 : Int32))) 63 0 0 ((rI (wI μ 64 0 0 (((rI μ 64 0 0) + (1 : Int32)) - ((rI μ 64 0 0) + (1 : Int32)) / (10 : Int32) * (10 : Int32))) 63 0 0) - (1 : Int32))) _ h hret
def fX6_undo (μ : Mem) : Option (Int32 × Mem) := (if ¬ (rI (wI μ 60 0 0 (0 : Int32)) 63 0 0) = 0 then ((fX6_slot (rI (wI (wI μ 60 0 0 (0 : Int32)) 63 0 0 ((rI (wI μ 60 0 0 (0 : Int32)) 63 0 0) - (1 : Int32))) 63 0 0) (wI (wI μ 60 0 0 (0 : Int32)) 63 0 0 ((rI (wI μ 60 0 0 (0 : Int32)) 63 0 0) - (1 : Int32)))).bind fun q1 => ((fX6_copyRow q1 (0 : Int32) (wI (wI μ 60 0 0 (0 : Int32)) 63 0 0 ((rI (wI μ 60 0 0 (0 : Int32)) 63 0 0) - (1 : Int32)))).bind fun q2 => (some (rI q2 63 0 0, q2)))) else ((fX6_fails (1 : Int32) (wI μ 60 0 0 (0 : Int32))).bind fun q3 => (some (q3.1, q3.2))))
set_option maxHeartbeats 4000000 in
set_option maxRecDepth 100000 in
theorem okX6_undo (l : Launch) (cy : Nat → ClassId) (D : va_G) (B : Nat) (ek : EK) (σ μ ω : Mem) (res : Int32 × Mem) (h : fX6_undo μ = some res) : CT l cy D B ek yX6_undo cX6_undo 1 (some .int) ({ frames := 1, cells := 0, slots := 0, locals := 23 } : Room) [.ref (B + oMd)] σ μ ω (some (.int res.1)) σ res.2 ω := by
  refine met_X (own := "HostelBedsModel") (by decide) rfl (Nat.le_of_ble_eq_true rfl) ?_
  intro p e s m args below meth c C hrT hlk
  have hret : ∀ (pc9 : Nat) (lcs9 : List (Nat × Value)), decode cX6_undo pc9 = .ok (.ireturn, 1) → narrow .int (.int res.1) = .int res.1 → X p l e ({ frames := 1, cells := 0, slots := 0, locals := 23 } : Room) s m args below meth c 1 cy D B 0 0 (MQ below (QR cy D B (some (.int res.1)) σ res.2 ω) args s 0 0 (aB B)) pc9 lcs9 [.int res.1] σ res.2 ω := fun _ _ hd hn => x_zret C hrT hlk hn hd
  generalize (MQ below (QR cy D B (some (.int res.1)) σ res.2 ω) args s 0 0 (aB B)) = Q at hret ⊢
  obtain ⟨R, hR9⟩ : ∃ R : Room, R = ({ frames := 1, cells := 0, slots := 0, locals := 23 } : Room) := ⟨_, rfl⟩
  rw [← hR9] at hret ⊢
  unfold fX6_undo at h
  show X p l e R s m args below meth c 1 cy D B 0 0 Q 0 [(0, .ref (B + oMd))] [] σ μ ω
  refine x_aload_n C dX6_undo_0 rfl 0 rfl ?_
  refine x_iconst C (v := 0) dX6_undo_1 (by decide) ?_
  refine x_put C (C1 := "HostelBedsModel") (T := TX6) (N := 27) (ci := 6) inXg6 tyX6 tyX6_ok nmX6 _ (c_Md) rfl 0 (by decide) (lw_g_mk tw_1131 rfl) rfl rfl rfl rfl (Nat.le_of_ble_eq_true rfl) dX6_undo_2 (s_Md_thrown) ?_
  refine x_aload_n C dX6_undo_5 rfl 0 rfl ?_
  refine x_get C (C1 := "HostelBedsModel") (T := TX6) (N := 27) (ci := 6) inXg6 _ (c_Md) rfl 3 (by decide) (lw_g_mk tw_1134 rfl) rfl dX6_undo_6 ?_
  refine x_if_ne C (tgt := 18) dX6_undo_9 (by decide) (fun hc1 => ?_) (fun hc1 => ?_)
  · rw [if_pos hc1] at h
    refine x_aload_n C dX6_undo_18 rfl 0 rfl ?_
    refine x_dup C dX6_undo_19 rfl ?_
    refine x_get C (C1 := "HostelBedsModel") (T := TX6) (N := 27) (ci := 6) inXg6 _ (c_Md) rfl 3 (by decide) (lw_g_mk tw_1134 rfl) rfl dX6_undo_20 ?_
    refine x_iconst C (v := 1) dX6_undo_23 (by decide) ?_
    refine x_isub C dX6_undo_24 ?_
    refine x_put C (C1 := "HostelBedsModel") (T := TX6) (N := 27) (ci := 6) inXg6 tyX6 tyX6_ok nmX6 _ (c_Md) rfl 3 (by decide) (lw_g_mk tw_1134 rfl) rfl rfl rfl rfl (Nat.le_of_ble_eq_true rfl) dX6_undo_25 (s_Md_edits) ?_
    refine x_aload_n C dX6_undo_28 rfl 0 rfl ?_
    refine x_aload_n C dX6_undo_29 rfl 0 rfl ?_
    refine x_aload_n C dX6_undo_30 rfl 0 rfl ?_
    refine x_get C (C1 := "HostelBedsModel") (T := TX6) (N := 27) (ci := 6) inXg6 _ (c_Md) rfl 3 (by decide) (lw_g_mk tw_1134 rfl) rfl dX6_undo_31 ?_
    obtain ⟨q1, hk2, h⟩ := Option.bind_eq_some_iff.mp h
    refine x_callV C (As := [.int (rI (wI (wI μ 60 0 0 (0 : Int32)) 63 0 0 ((rI (wI μ 60 0 0 (0 : Int32)) 63 0 0) - (1 : Int32))) 63 0 0)]) (rest := [.ref (B + oMd)]) (lw_g_mk tw_1667 rfl) (lw_g_mk tsel_87 rfl) (c_Md) (C1 := "HostelBedsModel") (T := TX6) (N := 27) (ci := 6) rfl (okX6_slot l cy D B ek (rI (wI (wI μ 60 0 0 (0 : Int32)) 63 0 0 ((rI (wI μ 60 0 0 (0 : Int32)) 63 0 0) - (1 : Int32))) 63 0 0) σ (wI (wI μ 60 0 0 (0 : Int32)) 63 0 0 ((rI (wI μ 60 0 0 (0 : Int32)) 63 0 0) - (1 : Int32))) ω _ hk2) rfl rfl (by rw [hR9]; decide) (lw_g_mk tw_1668 rfl) (lw_g_mk tw_7 rfl) (by decide) rfl (lw_g_mk tw_1665 rfl) rfl (Nat.le_of_ble_eq_true rfl) dX6_undo_34 (by rw [hR9]; decide) ?_
    refine x_iconst C (v := 0) dX6_undo_37 (by decide) ?_
    obtain ⟨q2, hk3, h⟩ := Option.bind_eq_some_iff.mp h
    refine x_callV C (As := [.int q1, .int (0 : Int32)]) (rest := []) (lw_g_mk tw_1129 rfl) (lw_g_mk tsel_17 rfl) (c_Md) (C1 := "HostelBedsModel") (T := TX6) (N := 27) (ci := 6) rfl (okX6_copyRow l cy D B ek q1 (0 : Int32) σ (wI (wI μ 60 0 0 (0 : Int32)) 63 0 0 ((rI (wI μ 60 0 0 (0 : Int32)) 63 0 0) - (1 : Int32))) ω _ hk3) rfl rfl (by rw [hR9]; decide) (lw_g_mk tw_1130 rfl) (lw_g_mk tw_7 rfl) (by decide) rfl (lw_g_mk tw_1127 rfl) rfl (Nat.le_of_ble_eq_true rfl) dX6_undo_38 (by rw [hR9]; decide) ?_
    refine x_aload_n C dX6_undo_41 rfl 0 rfl ?_
    refine x_get C (C1 := "HostelBedsModel") (T := TX6) (N := 27) (ci := 6) inXg6 _ (c_Md) rfl 3 (by decide) (lw_g_mk tw_1134 rfl) rfl dX6_undo_42 ?_
    cases h
    exact hret _ _ dX6_undo_45 rfl
  · rw [if_neg hc1] at h
    refine x_aload_n C dX6_undo_12 rfl 0 rfl ?_
    refine x_iconst C (v := 1) dX6_undo_13 (by decide) ?_
    obtain ⟨q3, hk4, h⟩ := Option.bind_eq_some_iff.mp h
    refine x_callV C (As := [.int (1 : Int32)]) (rest := []) (lw_g_mk tw_1224 rfl) (lw_g_mk tsel_18 rfl) (c_Md) (C1 := "HostelBedsModel") (T := TX6) (N := 27) (ci := 6) rfl (okX6_fails l cy D B ek (1 : Int32) σ (wI μ 60 0 0 (0 : Int32)) ω _ hk4) rfl rfl (by rw [hR9]; decide) (lw_g_mk tw_1225 rfl) (lw_g_mk tw_7 rfl) (by decide) rfl (lw_g_mk tw_1222 rfl) rfl (Nat.le_of_ble_eq_true rfl) dX6_undo_14 (by rw [hR9]; decide) ?_
    cases h
    exact hret _ _ dX6_undo_17 rfl
def jX6_book_35 (μ : Mem) : Option (Int32 × Mem) := ((fX6_fails (1 : Int32) (wI μ 60 0 0 (0 : Int32))).bind fun q2 => (some (q2.1, q2.2)))
def fX6_book (p1 : Int32) (p2 : Int32) (p3 : Int32) (p4 : Int32) (p5 : Int32) (p6 : Int32) (μ : Mem) : Option (Int32 × Mem) := ((fX6_isStay p1 p2).bind fun q1 => (if q1 = 0 then (jX6_book_35 μ) else ((fX6_isGroup p3 p4 p5).bind fun q3 => (if q3 = 0 then (jX6_book_35 μ) else ((fX6_isIn p6 (0 : Int32) (100 : Int32)).bind fun q4 => (if ¬ q4 = 0 then ((fX6_get (37 : Int32) (wI μ 60 0 0 (0 : Int32))).bind fun q5 => (if ¬ q5 = (16 : Int32) then ((fX6_keep (wI μ 60 0 0 (0 : Int32))).bind fun q6 => ((fX6_laysBooking p1 p2 p3 p4 p5 p6 q6).bind fun q7 => (gd (inb q5 17) ((fX6_comes q5 (wJ q7 12 0 q5.toNatClampNeg (0 : Int64))).bind fun q8 => (some (q5, q8)))))) else ((fX6_fails (2 : Int32) (wI μ 60 0 0 (0 : Int32))).bind fun q9 => (some (q9.1, q9.2))))) else (jX6_book_35 μ)))))))
set_option maxHeartbeats 4000000 in
set_option maxRecDepth 100000 in
theorem okX6_book (l : Launch) (cy : Nat → ClassId) (D : va_G) (B : Nat) (ek : EK) (p1 : Int32) (p2 : Int32) (p3 : Int32) (p4 : Int32) (p5 : Int32) (p6 : Int32) (σ μ ω : Mem) (res : Int32 × Mem) (h : fX6_book p1 p2 p3 p4 p5 p6 μ = some res) : CT l cy D B ek yX6_book cX6_book 8 (some .int) ({ frames := 6, cells := 0, slots := 0, locals := 132 } : Room) [.ref (B + oMd), .int p1, .int p2, .int p3, .int p4, .int p5, .int p6] σ μ ω (some (.int res.1)) σ res.2 ω := by
  refine met_X (own := "HostelBedsModel") (by decide) rfl (Nat.le_of_ble_eq_true rfl) ?_
  intro p e s m args below meth c C hrT hlk
  have hret : ∀ (pc9 : Nat) (lcs9 : List (Nat × Value)), decode cX6_book pc9 = .ok (.ireturn, 1) → narrow .int (.int res.1) = .int res.1 → X p l e ({ frames := 6, cells := 0, slots := 0, locals := 132 } : Room) s m args below meth c 8 cy D B 0 0 (MQ below (QR cy D B (some (.int res.1)) σ res.2 ω) args s 0 0 (aB B)) pc9 lcs9 [.int res.1] σ res.2 ω := fun _ _ hd hn => x_zret C hrT hlk hn hd
  generalize (MQ below (QR cy D B (some (.int res.1)) σ res.2 ω) args s 0 0 (aB B)) = Q at hret ⊢
  obtain ⟨R, hR9⟩ : ∃ R : Room, R = ({ frames := 6, cells := 0, slots := 0, locals := 132 } : Room) := ⟨_, rfl⟩
  rw [← hR9] at hret ⊢
  unfold fX6_book at h
  show X p l e R s m args below meth c 8 cy D B 0 0 Q 0 [(0, .ref (B + oMd)), (1, .int p1), (2, .int p2), (3, .int p3), (4, .int p4), (5, .int p5), (6, .int p6)] [] σ μ ω
  refine x_aload_n C dX6_book_0 rfl 0 rfl ?_
  refine x_iconst C (v := 0) dX6_book_1 (by decide) ?_
  refine x_put C (C1 := "HostelBedsModel") (T := TX6) (N := 27) (ci := 6) inXg6 tyX6 tyX6_ok nmX6 _ (c_Md) rfl 0 (by decide) (lw_g_mk tw_1131 rfl) rfl rfl rfl rfl (Nat.le_of_ble_eq_true rfl) dX6_book_2 (s_Md_thrown) ?_
  refine x_iload_n C dX6_book_5 rfl 1 rfl ?_
  refine x_iload_n C dX6_book_6 rfl 2 rfl ?_
  obtain ⟨q1, hk1, h⟩ := Option.bind_eq_some_iff.mp h
  refine x_callS C (As := [.int p1, .int p2]) (rest := []) (lw_g_mk tw_1632 rfl) (okX6_isStay l cy D B ek p1 p2 σ (wI μ 60 0 0 (0 : Int32)) ω _ hk1) rfl rfl (by rw [hR9]; decide) (lw_g_mk tw_1633 rfl) (lw_g_mk tw_7 rfl) (by decide) rfl (lw_g_mk tw_1631 rfl) rfl (Nat.le_of_ble_eq_true rfl) dX6_book_7 (by rw [hR9]; decide) ?_
  have hJ3 : ∀ (r9 : Int32 × Mem), jX6_book_35 μ = some r9 → (∀ (pc9 : Nat) (lcs9 : List (Nat × Value)), decode cX6_book pc9 = .ok (.ireturn, 1) → narrow .int (.int r9.1) = .int r9.1 → X p l e R s m args below meth c 8 cy D B 0 0 Q pc9 lcs9 [.int r9.1] σ r9.2 ω) → X p l e R s m args below meth c 8 cy D B 0 0 Q 35 [(0, .ref (B + oMd))] [] σ (wI μ 60 0 0 (0 : Int32)) ω := by
    intro res9 h hret
    unfold jX6_book_35 at h
    refine x_aload_n C dX6_book_35 rfl 0 rfl ?_
    refine x_iconst C (v := 1) dX6_book_36 (by decide) ?_
    obtain ⟨q2, hk2, h⟩ := Option.bind_eq_some_iff.mp h
    refine x_callV C (As := [.int (1 : Int32)]) (rest := []) (lw_g_mk tw_1224 rfl) (lw_g_mk tsel_18 rfl) (c_Md) (C1 := "HostelBedsModel") (T := TX6) (N := 27) (ci := 6) rfl (okX6_fails l cy D B ek (1 : Int32) σ (wI μ 60 0 0 (0 : Int32)) ω _ hk2) rfl rfl (by rw [hR9]; decide) (lw_g_mk tw_1225 rfl) (lw_g_mk tw_7 rfl) (by decide) rfl (lw_g_mk tw_1222 rfl) rfl (Nat.le_of_ble_eq_true rfl) dX6_book_37 (by rw [hR9]; decide) ?_
    cases h
    exact hret _ _ dX6_book_40 rfl
  refine x_if_eq C (tgt := 35) dX6_book_10 (by decide) (fun hc4 => ?_) (fun hc4 => ?_)
  · rw [if_pos hc4] at h
    refine x_sub [0] rfl ?_
    exact hJ3 _ h hret
  · rw [if_neg hc4] at h
    refine x_iload_n C dX6_book_13 rfl 3 rfl ?_
    refine x_iload C dX6_book_14 4 rfl ?_
    refine x_iload C dX6_book_16 5 rfl ?_
    obtain ⟨q3, hk5, h⟩ := Option.bind_eq_some_iff.mp h
    refine x_callS C (As := [.int p3, .int p4, .int p5]) (rest := []) (lw_g_mk tw_1635 rfl) (okX6_isGroup l cy D B ek p3 p4 p5 σ (wI μ 60 0 0 (0 : Int32)) ω _ hk5) rfl rfl (by rw [hR9]; decide) (lw_g_mk tw_1636 rfl) (lw_g_mk tw_7 rfl) (by decide) rfl (lw_g_mk tw_1634 rfl) rfl (Nat.le_of_ble_eq_true rfl) dX6_book_18 (by rw [hR9]; decide) ?_
    refine x_if_eq C (tgt := 35) dX6_book_21 (by decide) (fun hc6 => ?_) (fun hc6 => ?_)
    · rw [if_pos hc6] at h
      refine x_sub [0] rfl ?_
      exact hJ3 _ h hret
    · rw [if_neg hc6] at h
      refine x_iload C dX6_book_24 6 rfl ?_
      refine x_iconst C (v := 0) dX6_book_26 (by decide) ?_
      refine x_bipush C (v := 100) dX6_book_27 (by decide) ?_
      obtain ⟨q4, hk7, h⟩ := Option.bind_eq_some_iff.mp h
      refine x_callS C (As := [.int p6, .int (0 : Int32), .int (100 : Int32)]) (rest := []) (lw_g_mk tw_1235 rfl) (okX6_isIn l cy D B ek p6 (0 : Int32) (100 : Int32) σ (wI μ 60 0 0 (0 : Int32)) ω _ hk7) rfl rfl (by rw [hR9]; decide) (lw_g_mk tw_1236 rfl) (lw_g_mk tw_7 rfl) (by decide) rfl (lw_g_mk tw_1234 rfl) rfl (Nat.le_of_ble_eq_true rfl) dX6_book_29 (by rw [hR9]; decide) ?_
      refine x_if_ne C (tgt := 41) dX6_book_32 (by decide) (fun hc8 => ?_) (fun hc8 => ?_)
      · rw [if_pos hc8] at h
        refine x_aload_n C dX6_book_41 rfl 0 rfl ?_
        refine x_bipush C (v := 37) dX6_book_42 (by decide) ?_
        obtain ⟨q5, hk9, h⟩ := Option.bind_eq_some_iff.mp h
        refine x_callV C (As := [.int (37 : Int32)]) (rest := []) (lw_g_mk tw_1296 rfl) (lw_g_mk tsel_31 rfl) (c_Md) (C1 := "HostelBedsModel") (T := TX6) (N := 27) (ci := 6) rfl (okX6_get l cy D B ek (37 : Int32) σ (wI μ 60 0 0 (0 : Int32)) ω _ hk9) rfl rfl (by rw [hR9]; decide) (lw_g_mk tw_1297 rfl) (lw_g_mk tw_7 rfl) (by decide) rfl (lw_g_mk tw_1294 rfl) rfl (Nat.le_of_ble_eq_true rfl) dX6_book_44 (by rw [hR9]; decide) ?_
        refine x_istore C [(7, .int q5), (0, .ref (B + oMd)), (1, .int p1), (2, .int p2), (3, .int p3), (4, .int p4), (5, .int p5), (6, .int p6)] dX6_book_47 (by decide) rfl ?_
        refine x_iload C dX6_book_49 0 rfl ?_
        refine x_bipush C (v := 16) dX6_book_51 (by decide) ?_
        refine x_icmp_ne C (tgt := 62) dX6_book_53 (by decide) (fun hc10 => ?_) (fun hc10 => ?_)
        · rw [if_pos hc10] at h
          refine x_aload_n C dX6_book_62 rfl 1 rfl ?_
          obtain ⟨q6, hk11, h⟩ := Option.bind_eq_some_iff.mp h
          refine x_callV C (As := []) (rest := []) (lw_g_mk tw_1675 rfl) (lw_g_mk tsel_88 rfl) (c_Md) (C1 := "HostelBedsModel") (T := TX6) (N := 27) (ci := 6) rfl (okX6_keep l cy D B ek σ (wI μ 60 0 0 (0 : Int32)) ω _ hk11) rfl rfl (by rw [hR9]; decide) (lw_g_mk tw_1676 rfl) (lw_g_mk tw_7 rfl) (by decide) rfl (lw_g_mk tw_1673 rfl) rfl (Nat.le_of_ble_eq_true rfl) dX6_book_63 (by rw [hR9]; decide) ?_
          refine x_aload_n C dX6_book_66 rfl 1 rfl ?_
          refine x_iload_n C dX6_book_67 rfl 2 rfl ?_
          refine x_iload_n C dX6_book_68 rfl 3 rfl ?_
          refine x_iload_n C dX6_book_69 rfl 4 rfl ?_
          refine x_iload C dX6_book_70 5 rfl ?_
          refine x_iload C dX6_book_72 6 rfl ?_
          refine x_iload C dX6_book_74 7 rfl ?_
          obtain ⟨q7, hk12, h⟩ := Option.bind_eq_some_iff.mp h
          refine x_callV C (As := [.int p1, .int p2, .int p3, .int p4, .int p5, .int p6]) (rest := []) (lw_g_mk tw_1339 rfl) (lw_g_mk tsel_41 rfl) (c_Md) (C1 := "HostelBedsModel") (T := TX6) (N := 27) (ci := 6) rfl (okX6_laysBooking l cy D B ek p1 p2 p3 p4 p5 p6 σ q6 ω _ hk12) rfl rfl (by rw [hR9]; decide) (lw_g_mk tw_1340 rfl) (lw_g_mk tw_7 rfl) (by decide) rfl (lw_g_mk tw_1337 rfl) rfl (Nat.le_of_ble_eq_true rfl) dX6_book_76 (by rw [hR9]; decide) ?_
          refine x_aload_n C dX6_book_79 rfl 1 rfl ?_
          refine x_get C (C1 := "HostelBedsModel") (T := TX6) (N := 27) (ci := 6) inXg6 _ (c_Md) rfl 6 (by decide) (lw_g_mk tw_1137 rfl) rfl dX6_book_80 ?_
          refine x_iload C dX6_book_83 0 rfl ?_
          refine x_lconst C (v := 0) dX6_book_85 (by decide) ?_
          obtain ⟨hg13, h⟩ := gd_some h
          refine x_last C _ (c_BN) hg13 dX6_book_86 (s_BN) ?_
          refine x_aload_n C dX6_book_87 rfl 1 rfl ?_
          refine x_iload C dX6_book_88 0 rfl ?_
          obtain ⟨q8, hk14, h⟩ := Option.bind_eq_some_iff.mp h
          refine x_callV C (As := [.int q5]) (rest := []) (lw_g_mk tw_1347 rfl) (lw_g_mk tsel_43 rfl) (c_Md) (C1 := "HostelBedsModel") (T := TX6) (N := 27) (ci := 6) rfl (okX6_comes l cy D B ek q5 σ (wJ q7 12 0 q5.toNatClampNeg (0 : Int64)) ω _ hk14) rfl rfl (by rw [hR9]; decide) (lw_g_mk tw_1348 rfl) (lw_g_mk tw_7 rfl) (by decide) rfl (lw_g_mk tw_1345 rfl) rfl (Nat.le_of_ble_eq_true rfl) dX6_book_90 (by rw [hR9]; decide) ?_
          refine x_iload C dX6_book_93 0 rfl ?_
          cases h
          exact hret _ _ dX6_book_95 rfl
        · rw [if_neg hc10] at h
          refine x_aload_n C dX6_book_56 rfl 1 rfl ?_
          refine x_iconst C (v := 2) dX6_book_57 (by decide) ?_
          obtain ⟨q9, hk15, h⟩ := Option.bind_eq_some_iff.mp h
          refine x_callV C (As := [.int (2 : Int32)]) (rest := []) (lw_g_mk tw_1224 rfl) (lw_g_mk tsel_18 rfl) (c_Md) (C1 := "HostelBedsModel") (T := TX6) (N := 27) (ci := 6) rfl (okX6_fails l cy D B ek (2 : Int32) σ (wI μ 60 0 0 (0 : Int32)) ω _ hk15) rfl rfl (by rw [hR9]; decide) (lw_g_mk tw_1225 rfl) (lw_g_mk tw_7 rfl) (by decide) rfl (lw_g_mk tw_1222 rfl) rfl (Nat.le_of_ble_eq_true rfl) dX6_book_58 (by rw [hR9]; decide) ?_
          cases h
          exact hret _ _ dX6_book_61 rfl
      · rw [if_neg hc8] at h
        refine x_sub [0] rfl ?_
        exact hJ3 _ h hret
def fX6_cancel (p1 : Int32) (μ : Mem) : Option (Int32 × Mem) := ((fX6_isBooking p1 (wI μ 60 0 0 (0 : Int32))).bind fun q1 => (if ¬ q1 = 0 then ((fX6_of p1 (8 : Int32) (wI μ 60 0 0 (0 : Int32))).bind fun q2 => (if ¬ q2 = (2 : Int32) then ((fX6_keep (wI μ 60 0 0 (0 : Int32))).bind fun q3 => ((fX6_cancels p1 q3).bind fun q4 => (some (q4.1, q4.2)))) else ((fX6_fails (2 : Int32) (wI μ 60 0 0 (0 : Int32))).bind fun q5 => (some (q5.1, q5.2))))) else ((fX6_fails (1 : Int32) (wI μ 60 0 0 (0 : Int32))).bind fun q6 => (some (q6.1, q6.2)))))
set_option maxHeartbeats 4000000 in
set_option maxRecDepth 100000 in
theorem okX6_cancel (l : Launch) (cy : Nat → ClassId) (D : va_G) (B : Nat) (ek : EK) (p1 : Int32) (σ μ ω : Mem) (res : Int32 × Mem) (h : fX6_cancel p1 μ = some res) : CT l cy D B ek yX6_cancel cX6_cancel 2 (some .int) ({ frames := 7, cells := 0, slots := 0, locals := 158 } : Room) [.ref (B + oMd), .int p1] σ μ ω (some (.int res.1)) σ res.2 ω := by
  refine met_X (own := "HostelBedsModel") (by decide) rfl (Nat.le_of_ble_eq_true rfl) ?_
  intro p e s m args below meth c C hrT hlk
  have hret : ∀ (pc9 : Nat) (lcs9 : List (Nat × Value)), decode cX6_cancel pc9 = .ok (.ireturn, 1) → narrow .int (.int res.1) = .int res.1 → X p l e ({ frames := 7, cells := 0, slots := 0, locals := 158 } : Room) s m args below meth c 2 cy D B 0 0 (MQ below (QR cy D B (some (.int res.1)) σ res.2 ω) args s 0 0 (aB B)) pc9 lcs9 [.int res.1] σ res.2 ω := fun _ _ hd hn => x_zret C hrT hlk hn hd
  generalize (MQ below (QR cy D B (some (.int res.1)) σ res.2 ω) args s 0 0 (aB B)) = Q at hret ⊢
  obtain ⟨R, hR9⟩ : ∃ R : Room, R = ({ frames := 7, cells := 0, slots := 0, locals := 158 } : Room) := ⟨_, rfl⟩
  rw [← hR9] at hret ⊢
  unfold fX6_cancel at h
  show X p l e R s m args below meth c 2 cy D B 0 0 Q 0 [(0, .ref (B + oMd)), (1, .int p1)] [] σ μ ω
  refine x_aload_n C dX6_cancel_0 rfl 0 rfl ?_
  refine x_iconst C (v := 0) dX6_cancel_1 (by decide) ?_
  refine x_put C (C1 := "HostelBedsModel") (T := TX6) (N := 27) (ci := 6) inXg6 tyX6 tyX6_ok nmX6 _ (c_Md) rfl 0 (by decide) (lw_g_mk tw_1131 rfl) rfl rfl rfl rfl (Nat.le_of_ble_eq_true rfl) dX6_cancel_2 (s_Md_thrown) ?_
  refine x_aload_n C dX6_cancel_5 rfl 0 rfl ?_
  refine x_iload_n C dX6_cancel_6 rfl 1 rfl ?_
  obtain ⟨q1, hk1, h⟩ := Option.bind_eq_some_iff.mp h
  refine x_callV C (As := [.int p1]) (rest := []) (lw_g_mk tw_1431 rfl) (lw_g_mk tsel_59 rfl) (c_Md) (C1 := "HostelBedsModel") (T := TX6) (N := 27) (ci := 6) rfl (okX6_isBooking l cy D B ek p1 σ (wI μ 60 0 0 (0 : Int32)) ω _ hk1) rfl rfl (by rw [hR9]; decide) (lw_g_mk tw_1432 rfl) (lw_g_mk tw_7 rfl) (by decide) rfl (lw_g_mk tw_1429 rfl) rfl (Nat.le_of_ble_eq_true rfl) dX6_cancel_7 (by rw [hR9]; decide) ?_
  refine x_if_ne C (tgt := 19) dX6_cancel_10 (by decide) (fun hc2 => ?_) (fun hc2 => ?_)
  · rw [if_pos hc2] at h
    refine x_aload_n C dX6_cancel_19 rfl 0 rfl ?_
    refine x_iload_n C dX6_cancel_20 rfl 1 rfl ?_
    refine x_bipush C (v := 8) dX6_cancel_21 (by decide) ?_
    obtain ⟨q2, hk3, h⟩ := Option.bind_eq_some_iff.mp h
    refine x_callV C (As := [.int p1, .int (8 : Int32)]) (rest := []) (lw_g_mk tw_1367 rfl) (lw_g_mk tsel_48 rfl) (c_Md) (C1 := "HostelBedsModel") (T := TX6) (N := 27) (ci := 6) rfl (okX6_of l cy D B ek p1 (8 : Int32) σ (wI μ 60 0 0 (0 : Int32)) ω _ hk3) rfl rfl (by rw [hR9]; decide) (lw_g_mk tw_1368 rfl) (lw_g_mk tw_7 rfl) (by decide) rfl (lw_g_mk tw_1365 rfl) rfl (Nat.le_of_ble_eq_true rfl) dX6_cancel_23 (by rw [hR9]; decide) ?_
    refine x_iconst C (v := 2) dX6_cancel_26 (by decide) ?_
    refine x_icmp_ne C (tgt := 36) dX6_cancel_27 (by decide) (fun hc4 => ?_) (fun hc4 => ?_)
    · rw [if_pos hc4] at h
      refine x_aload_n C dX6_cancel_36 rfl 0 rfl ?_
      obtain ⟨q3, hk5, h⟩ := Option.bind_eq_some_iff.mp h
      refine x_callV C (As := []) (rest := []) (lw_g_mk tw_1675 rfl) (lw_g_mk tsel_88 rfl) (c_Md) (C1 := "HostelBedsModel") (T := TX6) (N := 27) (ci := 6) rfl (okX6_keep l cy D B ek σ (wI μ 60 0 0 (0 : Int32)) ω _ hk5) rfl rfl (by rw [hR9]; decide) (lw_g_mk tw_1676 rfl) (lw_g_mk tw_7 rfl) (by decide) rfl (lw_g_mk tw_1673 rfl) rfl (Nat.le_of_ble_eq_true rfl) dX6_cancel_37 (by rw [hR9]; decide) ?_
      refine x_aload_n C dX6_cancel_40 rfl 0 rfl ?_
      refine x_iload_n C dX6_cancel_41 rfl 1 rfl ?_
      obtain ⟨q4, hk6, h⟩ := Option.bind_eq_some_iff.mp h
      refine x_callV C (As := [.int p1]) (rest := []) (lw_g_mk tw_1391 rfl) (lw_g_mk tsel_54 rfl) (c_Md) (C1 := "HostelBedsModel") (T := TX6) (N := 27) (ci := 6) rfl (okX6_cancels l cy D B ek p1 σ q3 ω _ hk6) rfl rfl (by rw [hR9]; decide) (lw_g_mk tw_1392 rfl) (lw_g_mk tw_7 rfl) (by decide) rfl (lw_g_mk tw_1389 rfl) rfl (Nat.le_of_ble_eq_true rfl) dX6_cancel_42 (by rw [hR9]; decide) ?_
      cases h
      exact hret _ _ dX6_cancel_45 rfl
    · rw [if_neg hc4] at h
      refine x_aload_n C dX6_cancel_30 rfl 0 rfl ?_
      refine x_iconst C (v := 2) dX6_cancel_31 (by decide) ?_
      obtain ⟨q5, hk7, h⟩ := Option.bind_eq_some_iff.mp h
      refine x_callV C (As := [.int (2 : Int32)]) (rest := []) (lw_g_mk tw_1224 rfl) (lw_g_mk tsel_18 rfl) (c_Md) (C1 := "HostelBedsModel") (T := TX6) (N := 27) (ci := 6) rfl (okX6_fails l cy D B ek (2 : Int32) σ (wI μ 60 0 0 (0 : Int32)) ω _ hk7) rfl rfl (by rw [hR9]; decide) (lw_g_mk tw_1225 rfl) (lw_g_mk tw_7 rfl) (by decide) rfl (lw_g_mk tw_1222 rfl) rfl (Nat.le_of_ble_eq_true rfl) dX6_cancel_32 (by rw [hR9]; decide) ?_
      cases h
      exact hret _ _ dX6_cancel_35 rfl
  · rw [if_neg hc2] at h
    refine x_aload_n C dX6_cancel_13 rfl 0 rfl ?_
    refine x_iconst C (v := 1) dX6_cancel_14 (by decide) ?_
    obtain ⟨q6, hk8, h⟩ := Option.bind_eq_some_iff.mp h
    refine x_callV C (As := [.int (1 : Int32)]) (rest := []) (lw_g_mk tw_1224 rfl) (lw_g_mk tsel_18 rfl) (c_Md) (C1 := "HostelBedsModel") (T := TX6) (N := 27) (ci := 6) rfl (okX6_fails l cy D B ek (1 : Int32) σ (wI μ 60 0 0 (0 : Int32)) ω _ hk8) rfl rfl (by rw [hR9]; decide) (lw_g_mk tw_1225 rfl) (lw_g_mk tw_7 rfl) (by decide) rfl (lw_g_mk tw_1222 rfl) rfl (Nat.le_of_ble_eq_true rfl) dX6_cancel_15 (by rw [hR9]; decide) ?_
    cases h
    exact hret _ _ dX6_cancel_18 rfl
def jX6_change_48 (p1 : Int32) (p2 : Int32) (q2 : Mem) (t4 : Int32) (t5 : Int32) : Option (Int32 × Mem) := ((fX6_lay p1 p2 t5 q2).bind fun q6 => (gd (t4 = 0 ∨ t4 = 1) (some (t4, q6))))
def jX6_change_34 (p3 : Int32) (p1 : Int32) (p2 : Int32) (q2 : Mem) (t4 : Int32) : Option (Int32 × Mem) := (if p3 = 0 then (jX6_change_48 p1 p2 q2 t4 (0 : Int32)) else (jX6_change_48 p1 p2 q2 t4 (1 : Int32)))
def fX6_change (p1 : Int32) (p2 : Int32) (p3 : Int32) (μ : Mem) : Option (Int32 × Mem) := ((fX6_isBooking p1 μ).bind fun q1 => (if ¬ q1 = 0 then ((fX6_keep μ).bind fun q2 => ((fX6_of p1 p2 q2).bind fun q3 => (if ¬ q3 = (1 : Int32) then (jX6_change_34 p3 p1 p2 q2 (0 : Int32)) else (jX6_change_34 p3 p1 p2 q2 (1 : Int32))))) else (some ((0 : Int32), wI μ 60 0 0 (1 : Int32)))))
set_option maxHeartbeats 4000000 in
set_option maxRecDepth 100000 in
theorem okX6_change (l : Launch) (cy : Nat → ClassId) (D : va_G) (B : Nat) (ek : EK) (p1 : Int32) (p2 : Int32) (p3 : Int32) (σ μ ω : Mem) (res : Int32 × Mem) (h : fX6_change p1 p2 p3 μ = some res) : CT l cy D B ek yX6_change cX6_change 5 (some .boolean) ({ frames := 2, cells := 0, slots := 0, locals := 45 } : Room) [.ref (B + oMd), .int p1, .int p2, .int p3] σ μ ω (some (.int res.1)) σ res.2 ω := by
  refine met_X (own := "HostelBedsModel") (by decide) rfl (Nat.le_of_ble_eq_true rfl) ?_
  intro p e s m args below meth c C hrT hlk
  have hret : ∀ (pc9 : Nat) (lcs9 : List (Nat × Value)), decode cX6_change pc9 = .ok (.ireturn, 1) → narrow .boolean (.int res.1) = .int res.1 → X p l e ({ frames := 2, cells := 0, slots := 0, locals := 45 } : Room) s m args below meth c 5 cy D B 0 0 (MQ below (QR cy D B (some (.int res.1)) σ res.2 ω) args s 0 0 (aB B)) pc9 lcs9 [.int res.1] σ res.2 ω := fun _ _ hd hn => x_zret C hrT hlk hn hd
  generalize (MQ below (QR cy D B (some (.int res.1)) σ res.2 ω) args s 0 0 (aB B)) = Q at hret ⊢
  obtain ⟨R, hR9⟩ : ∃ R : Room, R = ({ frames := 2, cells := 0, slots := 0, locals := 45 } : Room) := ⟨_, rfl⟩
  rw [← hR9] at hret ⊢
  unfold fX6_change at h
  show X p l e R s m args below meth c 5 cy D B 0 0 Q 0 [(0, .ref (B + oMd)), (1, .int p1), (2, .int p2), (3, .int p3)] [] σ μ ω
  refine x_aload_n C dX6_change_0 rfl 0 rfl ?_
  refine x_iload_n C dX6_change_1 rfl 1 rfl ?_
  obtain ⟨q1, hk1, h⟩ := Option.bind_eq_some_iff.mp h
  refine x_callV C (As := [.int p1]) (rest := []) (lw_g_mk tw_1431 rfl) (lw_g_mk tsel_59 rfl) (c_Md) (C1 := "HostelBedsModel") (T := TX6) (N := 27) (ci := 6) rfl (okX6_isBooking l cy D B ek p1 σ μ ω _ hk1) rfl rfl (by rw [hR9]; decide) (lw_g_mk tw_1432 rfl) (lw_g_mk tw_7 rfl) (by decide) rfl (lw_g_mk tw_1429 rfl) rfl (Nat.le_of_ble_eq_true rfl) dX6_change_2 (by rw [hR9]; decide) ?_
  refine x_if_ne C (tgt := 15) dX6_change_5 (by decide) (fun hc2 => ?_) (fun hc2 => ?_)
  · rw [if_pos hc2] at h
    refine x_aload_n C dX6_change_15 rfl 0 rfl ?_
    obtain ⟨q2, hk3, h⟩ := Option.bind_eq_some_iff.mp h
    refine x_callV C (As := []) (rest := []) (lw_g_mk tw_1675 rfl) (lw_g_mk tsel_88 rfl) (c_Md) (C1 := "HostelBedsModel") (T := TX6) (N := 27) (ci := 6) rfl (okX6_keep l cy D B ek σ μ ω _ hk3) rfl rfl (by rw [hR9]; decide) (lw_g_mk tw_1676 rfl) (lw_g_mk tw_7 rfl) (by decide) rfl (lw_g_mk tw_1673 rfl) rfl (Nat.le_of_ble_eq_true rfl) dX6_change_16 (by rw [hR9]; decide) ?_
    refine x_aload_n C dX6_change_19 rfl 0 rfl ?_
    refine x_iload_n C dX6_change_20 rfl 1 rfl ?_
    refine x_iload_n C dX6_change_21 rfl 2 rfl ?_
    obtain ⟨q3, hk4, h⟩ := Option.bind_eq_some_iff.mp h
    refine x_callV C (As := [.int p1, .int p2]) (rest := []) (lw_g_mk tw_1367 rfl) (lw_g_mk tsel_48 rfl) (c_Md) (C1 := "HostelBedsModel") (T := TX6) (N := 27) (ci := 6) rfl (okX6_of l cy D B ek p1 p2 σ q2 ω _ hk4) rfl rfl (by rw [hR9]; decide) (lw_g_mk tw_1368 rfl) (lw_g_mk tw_7 rfl) (by decide) rfl (lw_g_mk tw_1365 rfl) rfl (Nat.le_of_ble_eq_true rfl) dX6_change_22 (by rw [hR9]; decide) ?_
    refine x_iconst C (v := 1) dX6_change_25 (by decide) ?_
    have hJ9 : ∀ (t4 : Int32) (r9 : Int32 × Mem), jX6_change_34 p3 p1 p2 q2 t4 = some r9 → (∀ (pc9 : Nat) (lcs9 : List (Nat × Value)), decode cX6_change pc9 = .ok (.ireturn, 1) → narrow .boolean (.int r9.1) = .int r9.1 → X p l e R s m args below meth c 5 cy D B 0 0 Q pc9 lcs9 [.int r9.1] σ r9.2 ω) → X p l e R s m args below meth c 5 cy D B 0 0 Q 34 [(0, .ref (B + oMd)), (1, .int p1), (2, .int p2), (3, .int p3)] [.int t4] σ q2 ω := by
      intro t4 res9 h hret
      unfold jX6_change_34 at h
      refine x_istore C [(4, .int t4), (0, .ref (B + oMd)), (1, .int p1), (2, .int p2), (3, .int p3)] dX6_change_34 (by decide) rfl ?_
      refine x_aload_n C dX6_change_36 rfl 1 rfl ?_
      refine x_iload_n C dX6_change_37 rfl 2 rfl ?_
      refine x_iload_n C dX6_change_38 rfl 3 rfl ?_
      refine x_iload_n C dX6_change_39 rfl 4 rfl ?_
      have hJ7 : ∀ (t5 : Int32) (r9 : Int32 × Mem), jX6_change_48 p1 p2 q2 t4 t5 = some r9 → (∀ (pc9 : Nat) (lcs9 : List (Nat × Value)), decode cX6_change pc9 = .ok (.ireturn, 1) → narrow .boolean (.int r9.1) = .int r9.1 → X p l e R s m args below meth c 5 cy D B 0 0 Q pc9 lcs9 [.int r9.1] σ r9.2 ω) → X p l e R s m args below meth c 5 cy D B 0 0 Q 48 [(4, .int t4)] [.int t5, .int p2, .int p1, .ref (B + oMd)] σ q2 ω := by
        intro t5 res9 h hret
        unfold jX6_change_48 at h
        obtain ⟨q6, hk5, h⟩ := Option.bind_eq_some_iff.mp h
        refine x_callV C (As := [.int p1, .int p2, .int t5]) (rest := []) (lw_g_mk tw_1343 rfl) (lw_g_mk tsel_42 rfl) (c_Md) (C1 := "HostelBedsModel") (T := TX6) (N := 27) (ci := 6) rfl (okX6_lay l cy D B ek p1 p2 t5 σ q2 ω _ hk5) rfl rfl (by rw [hR9]; decide) (lw_g_mk tw_1344 rfl) (lw_g_mk tw_7 rfl) (by decide) rfl (lw_g_mk tw_1341 rfl) rfl (Nat.le_of_ble_eq_true rfl) dX6_change_48 (by rw [hR9]; decide) ?_
        refine x_iload C dX6_change_51 0 rfl ?_
        obtain ⟨hg6, h⟩ := gd_some h
        cases h
        exact hret _ _ dX6_change_53 (nar_Z hg6)
      refine x_if_eq C (tgt := 47) dX6_change_40 (by decide) (fun hc8 => ?_) (fun hc8 => ?_)
      · rw [if_pos hc8] at h
        refine x_iconst C (v := 0) dX6_change_47 (by decide) ?_
        refine x_sub [0] rfl ?_
        exact hJ7 (0 : Int32) _ h hret
      · rw [if_neg hc8] at h
        refine x_iconst C (v := 1) dX6_change_43 (by decide) ?_
        refine x_goto C (tgt := 48) dX6_change_44 (by decide) ?_
        refine x_sub [0] rfl ?_
        exact hJ7 (1 : Int32) _ h hret
    refine x_icmp_ne C (tgt := 33) dX6_change_26 (by decide) (fun hc10 => ?_) (fun hc10 => ?_)
    · rw [if_pos hc10] at h
      refine x_iconst C (v := 0) dX6_change_33 (by decide) ?_
      exact hJ9 (0 : Int32) _ h hret
    · rw [if_neg hc10] at h
      refine x_iconst C (v := 1) dX6_change_29 (by decide) ?_
      refine x_goto C (tgt := 34) dX6_change_30 (by decide) ?_
      exact hJ9 (1 : Int32) _ h hret
  · rw [if_neg hc2] at h
    refine x_aload_n C dX6_change_8 rfl 0 rfl ?_
    refine x_iconst C (v := 1) dX6_change_9 (by decide) ?_
    refine x_put C (C1 := "HostelBedsModel") (T := TX6) (N := 27) (ci := 6) inXg6 tyX6 tyX6_ok nmX6 _ (c_Md) rfl 0 (by decide) (lw_g_mk tw_1131 rfl) rfl rfl rfl rfl (Nat.le_of_ble_eq_true rfl) dX6_change_10 (s_Md_thrown) ?_
    refine x_iconst C (v := 0) dX6_change_13 (by decide) ?_
    cases h
    exact hret _ _ dX6_change_14 (nar_Z (Or.inl rfl))
def fX6_setAbsent (p1 : Int32) (p2 : Int32) (μ : Mem) : Option (Int32 × Mem) := ((fX6_change p1 (7 : Int32) p2 (wI μ 60 0 0 (0 : Int32))).bind fun q1 => (gd (q1.1 = 0 ∨ q1.1 = 1) (some (q1.1, q1.2))))
set_option maxHeartbeats 4000000 in
set_option maxRecDepth 100000 in
theorem okX6_setAbsent (l : Launch) (cy : Nat → ClassId) (D : va_G) (B : Nat) (ek : EK) (p1 : Int32) (p2 : Int32) (σ μ ω : Mem) (res : Int32 × Mem) (h : fX6_setAbsent p1 p2 μ = some res) : CT l cy D B ek yX6_setAbsent cX6_setAbsent 3 (some .boolean) ({ frames := 3, cells := 0, slots := 0, locals := 69 } : Room) [.ref (B + oMd), .int p1, .int p2] σ μ ω (some (.int res.1)) σ res.2 ω := by
  refine met_X (own := "HostelBedsModel") (by decide) rfl (Nat.le_of_ble_eq_true rfl) ?_
  intro p e s m args below meth c C hrT hlk
  have hret : ∀ (pc9 : Nat) (lcs9 : List (Nat × Value)), decode cX6_setAbsent pc9 = .ok (.ireturn, 1) → narrow .boolean (.int res.1) = .int res.1 → X p l e ({ frames := 3, cells := 0, slots := 0, locals := 69 } : Room) s m args below meth c 3 cy D B 0 0 (MQ below (QR cy D B (some (.int res.1)) σ res.2 ω) args s 0 0 (aB B)) pc9 lcs9 [.int res.1] σ res.2 ω := fun _ _ hd hn => x_zret C hrT hlk hn hd
  generalize (MQ below (QR cy D B (some (.int res.1)) σ res.2 ω) args s 0 0 (aB B)) = Q at hret ⊢
  obtain ⟨R, hR9⟩ : ∃ R : Room, R = ({ frames := 3, cells := 0, slots := 0, locals := 69 } : Room) := ⟨_, rfl⟩
  rw [← hR9] at hret ⊢
  unfold fX6_setAbsent at h
  show X p l e R s m args below meth c 3 cy D B 0 0 Q 0 [(0, .ref (B + oMd)), (1, .int p1), (2, .int p2)] [] σ μ ω
  refine x_aload_n C dX6_setAbsent_0 rfl 0 rfl ?_
  refine x_iconst C (v := 0) dX6_setAbsent_1 (by decide) ?_
  refine x_put C (C1 := "HostelBedsModel") (T := TX6) (N := 27) (ci := 6) inXg6 tyX6 tyX6_ok nmX6 _ (c_Md) rfl 0 (by decide) (lw_g_mk tw_1131 rfl) rfl rfl rfl rfl (Nat.le_of_ble_eq_true rfl) dX6_setAbsent_2 (s_Md_thrown) ?_
  refine x_aload_n C dX6_setAbsent_5 rfl 0 rfl ?_
  refine x_iload_n C dX6_setAbsent_6 rfl 1 rfl ?_
  refine x_bipush C (v := 7) dX6_setAbsent_7 (by decide) ?_
  refine x_iload_n C dX6_setAbsent_9 rfl 2 rfl ?_
  obtain ⟨q1, hk1, h⟩ := Option.bind_eq_some_iff.mp h
  refine x_callV C (As := [.int p1, .int (7 : Int32), .int p2]) (rest := []) (lw_g_mk tw_1687 rfl) (lw_g_mk tsel_89 rfl) (c_Md) (C1 := "HostelBedsModel") (T := TX6) (N := 27) (ci := 6) rfl (okX6_change l cy D B ek p1 (7 : Int32) p2 σ (wI μ 60 0 0 (0 : Int32)) ω _ hk1) rfl rfl (by rw [hR9]; decide) (lw_g_mk tw_1688 rfl) (lw_g_mk tw_7 rfl) (by decide) rfl (lw_g_mk tw_1685 rfl) rfl (Nat.le_of_ble_eq_true rfl) dX6_setAbsent_10 (by rw [hR9]; decide) ?_
  obtain ⟨hg2, h⟩ := gd_some h
  cases h
  exact hret _ _ dX6_setAbsent_13 (nar_Z hg2)
def fX6_setTogether (p1 : Int32) (p2 : Int32) (μ : Mem) : Option (Int32 × Mem) := ((fX6_change p1 (6 : Int32) p2 (wI μ 60 0 0 (0 : Int32))).bind fun q1 => (gd (q1.1 = 0 ∨ q1.1 = 1) (some (q1.1, q1.2))))
set_option maxHeartbeats 4000000 in
set_option maxRecDepth 100000 in
theorem okX6_setTogether (l : Launch) (cy : Nat → ClassId) (D : va_G) (B : Nat) (ek : EK) (p1 : Int32) (p2 : Int32) (σ μ ω : Mem) (res : Int32 × Mem) (h : fX6_setTogether p1 p2 μ = some res) : CT l cy D B ek yX6_setTogether cX6_setTogether 3 (some .boolean) ({ frames := 3, cells := 0, slots := 0, locals := 69 } : Room) [.ref (B + oMd), .int p1, .int p2] σ μ ω (some (.int res.1)) σ res.2 ω := by
  refine met_X (own := "HostelBedsModel") (by decide) rfl (Nat.le_of_ble_eq_true rfl) ?_
  intro p e s m args below meth c C hrT hlk
  have hret : ∀ (pc9 : Nat) (lcs9 : List (Nat × Value)), decode cX6_setTogether pc9 = .ok (.ireturn, 1) → narrow .boolean (.int res.1) = .int res.1 → X p l e ({ frames := 3, cells := 0, slots := 0, locals := 69 } : Room) s m args below meth c 3 cy D B 0 0 (MQ below (QR cy D B (some (.int res.1)) σ res.2 ω) args s 0 0 (aB B)) pc9 lcs9 [.int res.1] σ res.2 ω := fun _ _ hd hn => x_zret C hrT hlk hn hd
  generalize (MQ below (QR cy D B (some (.int res.1)) σ res.2 ω) args s 0 0 (aB B)) = Q at hret ⊢
  obtain ⟨R, hR9⟩ : ∃ R : Room, R = ({ frames := 3, cells := 0, slots := 0, locals := 69 } : Room) := ⟨_, rfl⟩
  rw [← hR9] at hret ⊢
  unfold fX6_setTogether at h
  show X p l e R s m args below meth c 3 cy D B 0 0 Q 0 [(0, .ref (B + oMd)), (1, .int p1), (2, .int p2)] [] σ μ ω
  refine x_aload_n C dX6_setTogether_0 rfl 0 rfl ?_
  refine x_iconst C (v := 0) dX6_setTogether_1 (by decide) ?_
  refine x_put C (C1 := "HostelBedsModel") (T := TX6) (N := 27) (ci := 6) inXg6 tyX6 tyX6_ok nmX6 _ (c_Md) rfl 0 (by decide) (lw_g_mk tw_1131 rfl) rfl rfl rfl rfl (Nat.le_of_ble_eq_true rfl) dX6_setTogether_2 (s_Md_thrown) ?_
  refine x_aload_n C dX6_setTogether_5 rfl 0 rfl ?_
  refine x_iload_n C dX6_setTogether_6 rfl 1 rfl ?_
  refine x_bipush C (v := 6) dX6_setTogether_7 (by decide) ?_
  refine x_iload_n C dX6_setTogether_9 rfl 2 rfl ?_
  obtain ⟨q1, hk1, h⟩ := Option.bind_eq_some_iff.mp h
  refine x_callV C (As := [.int p1, .int (6 : Int32), .int p2]) (rest := []) (lw_g_mk tw_1687 rfl) (lw_g_mk tsel_89 rfl) (c_Md) (C1 := "HostelBedsModel") (T := TX6) (N := 27) (ci := 6) rfl (okX6_change l cy D B ek p1 (6 : Int32) p2 σ (wI μ 60 0 0 (0 : Int32)) ω _ hk1) rfl rfl (by rw [hR9]; decide) (lw_g_mk tw_1688 rfl) (lw_g_mk tw_7 rfl) (by decide) rfl (lw_g_mk tw_1685 rfl) rfl (Nat.le_of_ble_eq_true rfl) dX6_setTogether_10 (by rw [hR9]; decide) ?_
  obtain ⟨hg2, h⟩ := gd_some h
  cases h
  exact hret _ _ dX6_setTogether_13 (nar_Z hg2)
def fX6_setOver (p1 : Int32) (μ : Mem) : Option (Int32 × Mem) := ((fX6_isIn p1 (0 : Int32) (50 : Int32)).bind fun q1 => (if ¬ q1 = 0 then ((fX6_keep (wI μ 60 0 0 (0 : Int32))).bind fun q2 => ((fX6_set (0 : Int32) p1 q2).bind fun q3 => ((fX6_goesThrough q3).bind fun q4 => (some (q4.1, q4.2))))) else ((fX6_fails (1 : Int32) (wI μ 60 0 0 (0 : Int32))).bind fun q5 => (some (q5.1, q5.2)))))
set_option maxHeartbeats 4000000 in
set_option maxRecDepth 100000 in
theorem okX6_setOver (l : Launch) (cy : Nat → ClassId) (D : va_G) (B : Nat) (ek : EK) (p1 : Int32) (σ μ ω : Mem) (res : Int32 × Mem) (h : fX6_setOver p1 μ = some res) : CT l cy D B ek yX6_setOver cX6_setOver 2 (some .int) ({ frames := 6, cells := 0, slots := 0, locals := 135 } : Room) [.ref (B + oMd), .int p1] σ μ ω (some (.int res.1)) σ res.2 ω := by
  refine met_X (own := "HostelBedsModel") (by decide) rfl (Nat.le_of_ble_eq_true rfl) ?_
  intro p e s m args below meth c C hrT hlk
  have hret : ∀ (pc9 : Nat) (lcs9 : List (Nat × Value)), decode cX6_setOver pc9 = .ok (.ireturn, 1) → narrow .int (.int res.1) = .int res.1 → X p l e ({ frames := 6, cells := 0, slots := 0, locals := 135 } : Room) s m args below meth c 2 cy D B 0 0 (MQ below (QR cy D B (some (.int res.1)) σ res.2 ω) args s 0 0 (aB B)) pc9 lcs9 [.int res.1] σ res.2 ω := fun _ _ hd hn => x_zret C hrT hlk hn hd
  generalize (MQ below (QR cy D B (some (.int res.1)) σ res.2 ω) args s 0 0 (aB B)) = Q at hret ⊢
  obtain ⟨R, hR9⟩ : ∃ R : Room, R = ({ frames := 6, cells := 0, slots := 0, locals := 135 } : Room) := ⟨_, rfl⟩
  rw [← hR9] at hret ⊢
  unfold fX6_setOver at h
  show X p l e R s m args below meth c 2 cy D B 0 0 Q 0 [(0, .ref (B + oMd)), (1, .int p1)] [] σ μ ω
  refine x_aload_n C dX6_setOver_0 rfl 0 rfl ?_
  refine x_iconst C (v := 0) dX6_setOver_1 (by decide) ?_
  refine x_put C (C1 := "HostelBedsModel") (T := TX6) (N := 27) (ci := 6) inXg6 tyX6 tyX6_ok nmX6 _ (c_Md) rfl 0 (by decide) (lw_g_mk tw_1131 rfl) rfl rfl rfl rfl (Nat.le_of_ble_eq_true rfl) dX6_setOver_2 (s_Md_thrown) ?_
  refine x_iload_n C dX6_setOver_5 rfl 1 rfl ?_
  refine x_iconst C (v := 0) dX6_setOver_6 (by decide) ?_
  refine x_bipush C (v := 50) dX6_setOver_7 (by decide) ?_
  obtain ⟨q1, hk1, h⟩ := Option.bind_eq_some_iff.mp h
  refine x_callS C (As := [.int p1, .int (0 : Int32), .int (50 : Int32)]) (rest := []) (lw_g_mk tw_1235 rfl) (okX6_isIn l cy D B ek p1 (0 : Int32) (50 : Int32) σ (wI μ 60 0 0 (0 : Int32)) ω _ hk1) rfl rfl (by rw [hR9]; decide) (lw_g_mk tw_1236 rfl) (lw_g_mk tw_7 rfl) (by decide) rfl (lw_g_mk tw_1234 rfl) rfl (Nat.le_of_ble_eq_true rfl) dX6_setOver_9 (by rw [hR9]; decide) ?_
  refine x_if_ne C (tgt := 21) dX6_setOver_12 (by decide) (fun hc2 => ?_) (fun hc2 => ?_)
  · rw [if_pos hc2] at h
    refine x_aload_n C dX6_setOver_21 rfl 0 rfl ?_
    obtain ⟨q2, hk3, h⟩ := Option.bind_eq_some_iff.mp h
    refine x_callV C (As := []) (rest := []) (lw_g_mk tw_1675 rfl) (lw_g_mk tsel_88 rfl) (c_Md) (C1 := "HostelBedsModel") (T := TX6) (N := 27) (ci := 6) rfl (okX6_keep l cy D B ek σ (wI μ 60 0 0 (0 : Int32)) ω _ hk3) rfl rfl (by rw [hR9]; decide) (lw_g_mk tw_1676 rfl) (lw_g_mk tw_7 rfl) (by decide) rfl (lw_g_mk tw_1673 rfl) rfl (Nat.le_of_ble_eq_true rfl) dX6_setOver_22 (by rw [hR9]; decide) ?_
    refine x_aload_n C dX6_setOver_25 rfl 0 rfl ?_
    refine x_iconst C (v := 0) dX6_setOver_26 (by decide) ?_
    refine x_iload_n C dX6_setOver_27 rfl 1 rfl ?_
    obtain ⟨q3, hk4, h⟩ := Option.bind_eq_some_iff.mp h
    refine x_callV C (As := [.int (0 : Int32), .int p1]) (rest := []) (lw_g_mk tw_1323 rfl) (lw_g_mk tsel_37 rfl) (c_Md) (C1 := "HostelBedsModel") (T := TX6) (N := 27) (ci := 6) rfl (okX6_set l cy D B ek (0 : Int32) p1 σ q2 ω _ hk4) rfl rfl (by rw [hR9]; decide) (lw_g_mk tw_1324 rfl) (lw_g_mk tw_7 rfl) (by decide) rfl (lw_g_mk tw_1321 rfl) rfl (Nat.le_of_ble_eq_true rfl) dX6_setOver_28 (by rw [hR9]; decide) ?_
    refine x_aload_n C dX6_setOver_31 rfl 0 rfl ?_
    obtain ⟨q4, hk5, h⟩ := Option.bind_eq_some_iff.mp h
    refine x_callV C (As := []) (rest := []) (lw_g_mk tw_1395 rfl) (lw_g_mk tsel_55 rfl) (c_Md) (C1 := "HostelBedsModel") (T := TX6) (N := 27) (ci := 6) rfl (okX6_goesThrough l cy D B ek σ q3 ω _ hk5) rfl rfl (by rw [hR9]; decide) (lw_g_mk tw_1396 rfl) (lw_g_mk tw_7 rfl) (by decide) rfl (lw_g_mk tw_1393 rfl) rfl (Nat.le_of_ble_eq_true rfl) dX6_setOver_32 (by rw [hR9]; decide) ?_
    cases h
    exact hret _ _ dX6_setOver_35 rfl
  · rw [if_neg hc2] at h
    refine x_aload_n C dX6_setOver_15 rfl 0 rfl ?_
    refine x_iconst C (v := 1) dX6_setOver_16 (by decide) ?_
    obtain ⟨q5, hk6, h⟩ := Option.bind_eq_some_iff.mp h
    refine x_callV C (As := [.int (1 : Int32)]) (rest := []) (lw_g_mk tw_1224 rfl) (lw_g_mk tsel_18 rfl) (c_Md) (C1 := "HostelBedsModel") (T := TX6) (N := 27) (ci := 6) rfl (okX6_fails l cy D B ek (1 : Int32) σ (wI μ 60 0 0 (0 : Int32)) ω _ hk6) rfl rfl (by rw [hR9]; decide) (lw_g_mk tw_1225 rfl) (lw_g_mk tw_7 rfl) (by decide) rfl (lw_g_mk tw_1222 rfl) rfl (Nat.le_of_ble_eq_true rfl) dX6_setOver_17 (by rw [hR9]; decide) ?_
    cases h
    exact hret _ _ dX6_setOver_20 rfl
def fX6_setWalk (p1 : Int32) (μ : Mem) : Option (Int32 × Mem) := ((fX6_isIn p1 (0 : Int32) (300 : Int32)).bind fun q1 => (if ¬ q1 = 0 then ((fX6_keep (wI μ 60 0 0 (0 : Int32))).bind fun q2 => ((fX6_get (1 : Int32) q2).bind fun q3 => ((fX6_set (1 : Int32) p1 q2).bind fun q4 => (some (q3, q4))))) else ((fX6_fails (1 : Int32) (wI μ 60 0 0 (0 : Int32))).bind fun q5 => (some (q5.1, q5.2)))))
set_option maxHeartbeats 4000000 in
set_option maxRecDepth 100000 in
theorem okX6_setWalk (l : Launch) (cy : Nat → ClassId) (D : va_G) (B : Nat) (ek : EK) (p1 : Int32) (σ μ ω : Mem) (res : Int32 × Mem) (h : fX6_setWalk p1 μ = some res) : CT l cy D B ek yX6_setWalk cX6_setWalk 3 (some .int) ({ frames := 2, cells := 0, slots := 0, locals := 43 } : Room) [.ref (B + oMd), .int p1] σ μ ω (some (.int res.1)) σ res.2 ω := by
  refine met_X (own := "HostelBedsModel") (by decide) rfl (Nat.le_of_ble_eq_true rfl) ?_
  intro p e s m args below meth c C hrT hlk
  have hret : ∀ (pc9 : Nat) (lcs9 : List (Nat × Value)), decode cX6_setWalk pc9 = .ok (.ireturn, 1) → narrow .int (.int res.1) = .int res.1 → X p l e ({ frames := 2, cells := 0, slots := 0, locals := 43 } : Room) s m args below meth c 3 cy D B 0 0 (MQ below (QR cy D B (some (.int res.1)) σ res.2 ω) args s 0 0 (aB B)) pc9 lcs9 [.int res.1] σ res.2 ω := fun _ _ hd hn => x_zret C hrT hlk hn hd
  generalize (MQ below (QR cy D B (some (.int res.1)) σ res.2 ω) args s 0 0 (aB B)) = Q at hret ⊢
  obtain ⟨R, hR9⟩ : ∃ R : Room, R = ({ frames := 2, cells := 0, slots := 0, locals := 43 } : Room) := ⟨_, rfl⟩
  rw [← hR9] at hret ⊢
  unfold fX6_setWalk at h
  show X p l e R s m args below meth c 3 cy D B 0 0 Q 0 [(0, .ref (B + oMd)), (1, .int p1)] [] σ μ ω
  refine x_aload_n C dX6_setWalk_0 rfl 0 rfl ?_
  refine x_iconst C (v := 0) dX6_setWalk_1 (by decide) ?_
  refine x_put C (C1 := "HostelBedsModel") (T := TX6) (N := 27) (ci := 6) inXg6 tyX6 tyX6_ok nmX6 _ (c_Md) rfl 0 (by decide) (lw_g_mk tw_1131 rfl) rfl rfl rfl rfl (Nat.le_of_ble_eq_true rfl) dX6_setWalk_2 (s_Md_thrown) ?_
  refine x_iload_n C dX6_setWalk_5 rfl 1 rfl ?_
  refine x_iconst C (v := 0) dX6_setWalk_6 (by decide) ?_
  refine x_sipush C (v := 300) dX6_setWalk_7 (by decide) ?_
  obtain ⟨q1, hk1, h⟩ := Option.bind_eq_some_iff.mp h
  refine x_callS C (As := [.int p1, .int (0 : Int32), .int (300 : Int32)]) (rest := []) (lw_g_mk tw_1235 rfl) (okX6_isIn l cy D B ek p1 (0 : Int32) (300 : Int32) σ (wI μ 60 0 0 (0 : Int32)) ω _ hk1) rfl rfl (by rw [hR9]; decide) (lw_g_mk tw_1236 rfl) (lw_g_mk tw_7 rfl) (by decide) rfl (lw_g_mk tw_1234 rfl) rfl (Nat.le_of_ble_eq_true rfl) dX6_setWalk_10 (by rw [hR9]; decide) ?_
  refine x_if_ne C (tgt := 22) dX6_setWalk_13 (by decide) (fun hc2 => ?_) (fun hc2 => ?_)
  · rw [if_pos hc2] at h
    refine x_aload_n C dX6_setWalk_22 rfl 0 rfl ?_
    obtain ⟨q2, hk3, h⟩ := Option.bind_eq_some_iff.mp h
    refine x_callV C (As := []) (rest := []) (lw_g_mk tw_1675 rfl) (lw_g_mk tsel_88 rfl) (c_Md) (C1 := "HostelBedsModel") (T := TX6) (N := 27) (ci := 6) rfl (okX6_keep l cy D B ek σ (wI μ 60 0 0 (0 : Int32)) ω _ hk3) rfl rfl (by rw [hR9]; decide) (lw_g_mk tw_1676 rfl) (lw_g_mk tw_7 rfl) (by decide) rfl (lw_g_mk tw_1673 rfl) rfl (Nat.le_of_ble_eq_true rfl) dX6_setWalk_23 (by rw [hR9]; decide) ?_
    refine x_aload_n C dX6_setWalk_26 rfl 0 rfl ?_
    refine x_iconst C (v := 1) dX6_setWalk_27 (by decide) ?_
    obtain ⟨q3, hk4, h⟩ := Option.bind_eq_some_iff.mp h
    refine x_callV C (As := [.int (1 : Int32)]) (rest := []) (lw_g_mk tw_1296 rfl) (lw_g_mk tsel_31 rfl) (c_Md) (C1 := "HostelBedsModel") (T := TX6) (N := 27) (ci := 6) rfl (okX6_get l cy D B ek (1 : Int32) σ q2 ω _ hk4) rfl rfl (by rw [hR9]; decide) (lw_g_mk tw_1297 rfl) (lw_g_mk tw_7 rfl) (by decide) rfl (lw_g_mk tw_1294 rfl) rfl (Nat.le_of_ble_eq_true rfl) dX6_setWalk_28 (by rw [hR9]; decide) ?_
    refine x_istore_n C [(2, .int q3), (0, .ref (B + oMd)), (1, .int p1)] dX6_setWalk_31 rfl (by decide) rfl ?_
    refine x_aload_n C dX6_setWalk_32 rfl 1 rfl ?_
    refine x_iconst C (v := 1) dX6_setWalk_33 (by decide) ?_
    refine x_iload_n C dX6_setWalk_34 rfl 2 rfl ?_
    obtain ⟨q4, hk5, h⟩ := Option.bind_eq_some_iff.mp h
    refine x_callV C (As := [.int (1 : Int32), .int p1]) (rest := []) (lw_g_mk tw_1323 rfl) (lw_g_mk tsel_37 rfl) (c_Md) (C1 := "HostelBedsModel") (T := TX6) (N := 27) (ci := 6) rfl (okX6_set l cy D B ek (1 : Int32) p1 σ q2 ω _ hk5) rfl rfl (by rw [hR9]; decide) (lw_g_mk tw_1324 rfl) (lw_g_mk tw_7 rfl) (by decide) rfl (lw_g_mk tw_1321 rfl) rfl (Nat.le_of_ble_eq_true rfl) dX6_setWalk_35 (by rw [hR9]; decide) ?_
    refine x_iload_n C dX6_setWalk_38 rfl 0 rfl ?_
    cases h
    exact hret _ _ dX6_setWalk_39 rfl
  · rw [if_neg hc2] at h
    refine x_aload_n C dX6_setWalk_16 rfl 0 rfl ?_
    refine x_iconst C (v := 1) dX6_setWalk_17 (by decide) ?_
    obtain ⟨q5, hk6, h⟩ := Option.bind_eq_some_iff.mp h
    refine x_callV C (As := [.int (1 : Int32)]) (rest := []) (lw_g_mk tw_1224 rfl) (lw_g_mk tsel_18 rfl) (c_Md) (C1 := "HostelBedsModel") (T := TX6) (N := 27) (ci := 6) rfl (okX6_fails l cy D B ek (1 : Int32) σ (wI μ 60 0 0 (0 : Int32)) ω _ hk6) rfl rfl (by rw [hR9]; decide) (lw_g_mk tw_1225 rfl) (lw_g_mk tw_7 rfl) (by decide) rfl (lw_g_mk tw_1222 rfl) rfl (Nat.le_of_ble_eq_true rfl) dX6_setWalk_18 (by rw [hR9]; decide) ?_
    cases h
    exact hret _ _ dX6_setWalk_21 rfl
def fX6_setPrice (p1 : Int32) (p2 : Int32) (μ : Mem) : Option (Int32 × Mem) := ((fX6_isRoom p1 (wI μ 60 0 0 (0 : Int32))).bind fun q1 => (if ¬ q1 = 0 then ((fX6_isIn p2 (1 : Int32) (200 : Int32)).bind fun q2 => (if ¬ q2 = 0 then ((fX6_keep (wI μ 60 0 0 (0 : Int32))).bind fun q3 => ((fX6_roomIs p1 (3 : Int32) q3).bind fun q4 => ((fX6_set (((5 : Int32) + ((4 : Int32) * p1)) + (3 : Int32)) p2 q3).bind fun q5 => (some (q4, q5))))) else ((fX6_fails (2 : Int32) (wI μ 60 0 0 (0 : Int32))).bind fun q6 => (some (q6.1, q6.2))))) else ((fX6_fails (1 : Int32) (wI μ 60 0 0 (0 : Int32))).bind fun q7 => (some (q7.1, q7.2)))))
set_option maxHeartbeats 4000000 in
set_option maxRecDepth 100000 in
theorem okX6_setPrice (l : Launch) (cy : Nat → ClassId) (D : va_G) (B : Nat) (ek : EK) (p1 : Int32) (p2 : Int32) (σ μ ω : Mem) (res : Int32 × Mem) (h : fX6_setPrice p1 p2 μ = some res) : CT l cy D B ek yX6_setPrice cX6_setPrice 4 (some .int) ({ frames := 2, cells := 0, slots := 0, locals := 43 } : Room) [.ref (B + oMd), .int p1, .int p2] σ μ ω (some (.int res.1)) σ res.2 ω := by
  refine met_X (own := "HostelBedsModel") (by decide) rfl (Nat.le_of_ble_eq_true rfl) ?_
  intro p e s m args below meth c C hrT hlk
  have hret : ∀ (pc9 : Nat) (lcs9 : List (Nat × Value)), decode cX6_setPrice pc9 = .ok (.ireturn, 1) → narrow .int (.int res.1) = .int res.1 → X p l e ({ frames := 2, cells := 0, slots := 0, locals := 43 } : Room) s m args below meth c 4 cy D B 0 0 (MQ below (QR cy D B (some (.int res.1)) σ res.2 ω) args s 0 0 (aB B)) pc9 lcs9 [.int res.1] σ res.2 ω := fun _ _ hd hn => x_zret C hrT hlk hn hd
  generalize (MQ below (QR cy D B (some (.int res.1)) σ res.2 ω) args s 0 0 (aB B)) = Q at hret ⊢
  obtain ⟨R, hR9⟩ : ∃ R : Room, R = ({ frames := 2, cells := 0, slots := 0, locals := 43 } : Room) := ⟨_, rfl⟩
  rw [← hR9] at hret ⊢
  unfold fX6_setPrice at h
  show X p l e R s m args below meth c 4 cy D B 0 0 Q 0 [(0, .ref (B + oMd)), (1, .int p1), (2, .int p2)] [] σ μ ω
  refine x_aload_n C dX6_setPrice_0 rfl 0 rfl ?_
  refine x_iconst C (v := 0) dX6_setPrice_1 (by decide) ?_
  refine x_put C (C1 := "HostelBedsModel") (T := TX6) (N := 27) (ci := 6) inXg6 tyX6 tyX6_ok nmX6 _ (c_Md) rfl 0 (by decide) (lw_g_mk tw_1131 rfl) rfl rfl rfl rfl (Nat.le_of_ble_eq_true rfl) dX6_setPrice_2 (s_Md_thrown) ?_
  refine x_aload_n C dX6_setPrice_5 rfl 0 rfl ?_
  refine x_iload_n C dX6_setPrice_6 rfl 1 rfl ?_
  obtain ⟨q1, hk1, h⟩ := Option.bind_eq_some_iff.mp h
  refine x_callV C (As := [.int p1]) (rest := []) (lw_g_mk tw_1423 rfl) (lw_g_mk tsel_58 rfl) (c_Md) (C1 := "HostelBedsModel") (T := TX6) (N := 27) (ci := 6) rfl (okX6_isRoom l cy D B ek p1 σ (wI μ 60 0 0 (0 : Int32)) ω _ hk1) rfl rfl (by rw [hR9]; decide) (lw_g_mk tw_1424 rfl) (lw_g_mk tw_7 rfl) (by decide) rfl (lw_g_mk tw_1421 rfl) rfl (Nat.le_of_ble_eq_true rfl) dX6_setPrice_7 (by rw [hR9]; decide) ?_
  refine x_if_ne C (tgt := 19) dX6_setPrice_10 (by decide) (fun hc2 => ?_) (fun hc2 => ?_)
  · rw [if_pos hc2] at h
    refine x_iload_n C dX6_setPrice_19 rfl 2 rfl ?_
    refine x_iconst C (v := 1) dX6_setPrice_20 (by decide) ?_
    refine x_sipush C (v := 200) dX6_setPrice_21 (by decide) ?_
    obtain ⟨q2, hk3, h⟩ := Option.bind_eq_some_iff.mp h
    refine x_callS C (As := [.int p2, .int (1 : Int32), .int (200 : Int32)]) (rest := []) (lw_g_mk tw_1235 rfl) (okX6_isIn l cy D B ek p2 (1 : Int32) (200 : Int32) σ (wI μ 60 0 0 (0 : Int32)) ω _ hk3) rfl rfl (by rw [hR9]; decide) (lw_g_mk tw_1236 rfl) (lw_g_mk tw_7 rfl) (by decide) rfl (lw_g_mk tw_1234 rfl) rfl (Nat.le_of_ble_eq_true rfl) dX6_setPrice_24 (by rw [hR9]; decide) ?_
    refine x_if_ne C (tgt := 36) dX6_setPrice_27 (by decide) (fun hc4 => ?_) (fun hc4 => ?_)
    · rw [if_pos hc4] at h
      refine x_aload_n C dX6_setPrice_36 rfl 0 rfl ?_
      obtain ⟨q3, hk5, h⟩ := Option.bind_eq_some_iff.mp h
      refine x_callV C (As := []) (rest := []) (lw_g_mk tw_1675 rfl) (lw_g_mk tsel_88 rfl) (c_Md) (C1 := "HostelBedsModel") (T := TX6) (N := 27) (ci := 6) rfl (okX6_keep l cy D B ek σ (wI μ 60 0 0 (0 : Int32)) ω _ hk5) rfl rfl (by rw [hR9]; decide) (lw_g_mk tw_1676 rfl) (lw_g_mk tw_7 rfl) (by decide) rfl (lw_g_mk tw_1673 rfl) rfl (Nat.le_of_ble_eq_true rfl) dX6_setPrice_37 (by rw [hR9]; decide) ?_
      refine x_aload_n C dX6_setPrice_40 rfl 0 rfl ?_
      refine x_iload_n C dX6_setPrice_41 rfl 1 rfl ?_
      refine x_iconst C (v := 3) dX6_setPrice_42 (by decide) ?_
      obtain ⟨q4, hk6, h⟩ := Option.bind_eq_some_iff.mp h
      refine x_callV C (As := [.int p1, .int (3 : Int32)]) (rest := []) (lw_g_mk tw_1359 rfl) (lw_g_mk tsel_46 rfl) (c_Md) (C1 := "HostelBedsModel") (T := TX6) (N := 27) (ci := 6) rfl (okX6_roomIs l cy D B ek p1 (3 : Int32) σ q3 ω _ hk6) rfl rfl (by rw [hR9]; decide) (lw_g_mk tw_1360 rfl) (lw_g_mk tw_7 rfl) (by decide) rfl (lw_g_mk tw_1357 rfl) rfl (Nat.le_of_ble_eq_true rfl) dX6_setPrice_43 (by rw [hR9]; decide) ?_
      refine x_istore_n C [(3, .int q4), (0, .ref (B + oMd)), (1, .int p1), (2, .int p2)] dX6_setPrice_46 rfl (by decide) rfl ?_
      refine x_aload_n C dX6_setPrice_47 rfl 1 rfl ?_
      refine x_iconst C (v := 5) dX6_setPrice_48 (by decide) ?_
      refine x_iconst C (v := 4) dX6_setPrice_49 (by decide) ?_
      refine x_iload_n C dX6_setPrice_50 rfl 2 rfl ?_
      refine x_imul C dX6_setPrice_51 ?_
      refine x_iadd C dX6_setPrice_52 ?_
      refine x_iconst C (v := 3) dX6_setPrice_53 (by decide) ?_
      refine x_iadd C dX6_setPrice_54 ?_
      refine x_iload_n C dX6_setPrice_55 rfl 3 rfl ?_
      obtain ⟨q5, hk7, h⟩ := Option.bind_eq_some_iff.mp h
      refine x_callV C (As := [.int (((5 : Int32) + ((4 : Int32) * p1)) + (3 : Int32)), .int p2]) (rest := []) (lw_g_mk tw_1323 rfl) (lw_g_mk tsel_37 rfl) (c_Md) (C1 := "HostelBedsModel") (T := TX6) (N := 27) (ci := 6) rfl (okX6_set l cy D B ek (((5 : Int32) + ((4 : Int32) * p1)) + (3 : Int32)) p2 σ q3 ω _ hk7) rfl rfl (by rw [hR9]; decide) (lw_g_mk tw_1324 rfl) (lw_g_mk tw_7 rfl) (by decide) rfl (lw_g_mk tw_1321 rfl) rfl (Nat.le_of_ble_eq_true rfl) dX6_setPrice_56 (by rw [hR9]; decide) ?_
      refine x_iload_n C dX6_setPrice_59 rfl 0 rfl ?_
      cases h
      exact hret _ _ dX6_setPrice_60 rfl
    · rw [if_neg hc4] at h
      refine x_aload_n C dX6_setPrice_30 rfl 0 rfl ?_
      refine x_iconst C (v := 2) dX6_setPrice_31 (by decide) ?_
      obtain ⟨q6, hk8, h⟩ := Option.bind_eq_some_iff.mp h
      refine x_callV C (As := [.int (2 : Int32)]) (rest := []) (lw_g_mk tw_1224 rfl) (lw_g_mk tsel_18 rfl) (c_Md) (C1 := "HostelBedsModel") (T := TX6) (N := 27) (ci := 6) rfl (okX6_fails l cy D B ek (2 : Int32) σ (wI μ 60 0 0 (0 : Int32)) ω _ hk8) rfl rfl (by rw [hR9]; decide) (lw_g_mk tw_1225 rfl) (lw_g_mk tw_7 rfl) (by decide) rfl (lw_g_mk tw_1222 rfl) rfl (Nat.le_of_ble_eq_true rfl) dX6_setPrice_32 (by rw [hR9]; decide) ?_
      cases h
      exact hret _ _ dX6_setPrice_35 rfl
  · rw [if_neg hc2] at h
    refine x_aload_n C dX6_setPrice_13 rfl 0 rfl ?_
    refine x_iconst C (v := 1) dX6_setPrice_14 (by decide) ?_
    obtain ⟨q7, hk9, h⟩ := Option.bind_eq_some_iff.mp h
    refine x_callV C (As := [.int (1 : Int32)]) (rest := []) (lw_g_mk tw_1224 rfl) (lw_g_mk tsel_18 rfl) (c_Md) (C1 := "HostelBedsModel") (T := TX6) (N := 27) (ci := 6) rfl (okX6_fails l cy D B ek (1 : Int32) σ (wI μ 60 0 0 (0 : Int32)) ω _ hk9) rfl rfl (by rw [hR9]; decide) (lw_g_mk tw_1225 rfl) (lw_g_mk tw_7 rfl) (by decide) rfl (lw_g_mk tw_1222 rfl) rfl (Nat.le_of_ble_eq_true rfl) dX6_setPrice_15 (by rw [hR9]; decide) ?_
    cases h
    exact hret _ _ dX6_setPrice_18 rfl
def fX6_say (p1 : Int32) (μ : Mem) : Option (Mem) := (gd (inb (rI μ 69 0 0) 200) (some (wI (wI μ 68 0 (rI μ 69 0 0).toNatClampNeg (vp_nar .char ((p1.toUInt32 % 65536).toInt32))) 69 0 0 ((rI (wI μ 68 0 (rI μ 69 0 0).toNatClampNeg (vp_nar .char ((p1.toUInt32 % 65536).toInt32))) 69 0 0) + (1 : Int32)))))
set_option maxHeartbeats 4000000 in
set_option maxRecDepth 100000 in
theorem okX6_say (l : Launch) (cy : Nat → ClassId) (D : va_G) (B : Nat) (ek : EK) (p1 : Int32) (σ μ ω : Mem) (res : Mem) (h : fX6_say p1 μ = some res) : CT l cy D B ek yX6_say cX6_say 2 none ({ frames := 0, cells := 0, slots := 0, locals := 0 } : Room) [.ref (B + oMd), .int p1] σ μ ω none σ res ω := by
  refine met_X (own := "HostelBedsModel") (by decide) rfl (Nat.le_of_ble_eq_true rfl) ?_
  intro p e s m args below meth c C hrT hlk
  have hret : ∀ (pc9 : Nat) (lcs9 : List (Nat × Value)), decode cX6_say pc9 = .ok (.return_, 1) → X p l e ({ frames := 0, cells := 0, slots := 0, locals := 0 } : Room) s m args below meth c 2 cy D B 0 0 (MQ below (QR cy D B none σ res ω) args s 0 0 (aB B)) pc9 lcs9 [] σ res ω := fun _ _ hd => x_vret C hrT hlk hd
  generalize (MQ below (QR cy D B none σ res ω) args s 0 0 (aB B)) = Q at hret ⊢
  obtain ⟨R, hR9⟩ : ∃ R : Room, R = ({ frames := 0, cells := 0, slots := 0, locals := 0 } : Room) := ⟨_, rfl⟩
  rw [← hR9] at hret ⊢
  unfold fX6_say at h
  show X p l e R s m args below meth c 2 cy D B 0 0 Q 0 [(0, .ref (B + oMd)), (1, .int p1)] [] σ μ ω
  refine x_aload_n C dX6_say_0 rfl 0 rfl ?_
  refine x_get C (C1 := "HostelBedsModel") (T := TX6) (N := 27) (ci := 6) inXg6 _ (c_Md) rfl 12 (by decide) (lw_g_mk tw_1143 rfl) rfl dX6_say_1 ?_
  refine x_aload_n C dX6_say_4 rfl 0 rfl ?_
  refine x_get C (C1 := "HostelBedsModel") (T := TX6) (N := 27) (ci := 6) inXg6 _ (c_Md) rfl 13 (by decide) (lw_g_mk tw_1144 rfl) rfl dX6_say_5 ?_
  refine x_iload_n C dX6_say_8 rfl 1 rfl ?_
  refine x_i2c C dX6_say_9 ?_
  obtain ⟨hg1, h⟩ := gd_some h
  refine x_cast C _ (c_Fmt) hg1 dX6_say_10 (s_Fmt) ?_
  refine x_aload_n C dX6_say_11 rfl 0 rfl ?_
  refine x_dup C dX6_say_12 rfl ?_
  refine x_get C (C1 := "HostelBedsModel") (T := TX6) (N := 27) (ci := 6) inXg6 _ (c_Md) rfl 13 (by decide) (lw_g_mk tw_1144 rfl) rfl dX6_say_13 ?_
  refine x_iconst C (v := 1) dX6_say_16 (by decide) ?_
  refine x_iadd C dX6_say_17 ?_
  refine x_put C (C1 := "HostelBedsModel") (T := TX6) (N := 27) (ci := 6) inXg6 tyX6 tyX6_ok nmX6 _ (c_Md) rfl 13 (by decide) (lw_g_mk tw_1144 rfl) rfl rfl rfl rfl (Nat.le_of_ble_eq_true rfl) dX6_say_18 (s_Md_formattedLength) ?_
  cases h
  exact hret _ _ dX6_say_21
def stX6_sayNumber_2 (p1 : Int32) (a2 : Int32) : Option ((Int32) ⊕ (Int32)) := (gd (¬ a2 = 0) (if (p1 / a2) ≤ (9 : Int32) then (some (.inr a2)) else (some (.inl (a2 * (10 : Int32))))))
def stX6_sayNumber_18 (p1 : Int32) (a18 : Int32 × Mem) : Option ((Int32 × Mem) ⊕ (Mem)) := (if a18.1 ≤ 0 then (some (.inr a18.2)) else (gd (¬ a18.1 = 0) ((fX6_say ((48 : Int32) + ((p1 / a18.1) - (p1 / a18.1) / (10 : Int32) * (10 : Int32))) a18.2).bind fun q1 => (some (.inl (a18.1 / (10 : Int32), q1))))))
def fX6_sayNumber (p1 : Int32) (μ : Mem) : Option (Mem) := ((loop (stX6_sayNumber_2 p1) 5000 ((1 : Int32))).bind fun b2 => ((loop (stX6_sayNumber_18 p1) 5000 (b2, μ)).bind fun b18 => (some b18)))
set_option maxHeartbeats 4000000 in
set_option maxRecDepth 100000 in
theorem okX6_sayNumber (l : Launch) (cy : Nat → ClassId) (D : va_G) (B : Nat) (ek : EK) (p1 : Int32) (σ μ ω : Mem) (res : Mem) (h : fX6_sayNumber p1 μ = some res) : CT l cy D B ek yX6_sayNumber cX6_sayNumber 3 none ({ frames := 1, cells := 0, slots := 0, locals := 21 } : Room) [.ref (B + oMd), .int p1] σ μ ω none σ res ω := by
  refine met_X (own := "HostelBedsModel") (by decide) rfl (Nat.le_of_ble_eq_true rfl) ?_
  intro p e s m args below meth c C hrT hlk
  have hret : ∀ (pc9 : Nat) (lcs9 : List (Nat × Value)), decode cX6_sayNumber pc9 = .ok (.return_, 1) → X p l e ({ frames := 1, cells := 0, slots := 0, locals := 21 } : Room) s m args below meth c 3 cy D B 0 0 (MQ below (QR cy D B none σ res ω) args s 0 0 (aB B)) pc9 lcs9 [] σ res ω := fun _ _ hd => x_vret C hrT hlk hd
  generalize (MQ below (QR cy D B none σ res ω) args s 0 0 (aB B)) = Q at hret ⊢
  obtain ⟨R, hR9⟩ : ∃ R : Room, R = ({ frames := 1, cells := 0, slots := 0, locals := 21 } : Room) := ⟨_, rfl⟩
  rw [← hR9] at hret ⊢
  unfold fX6_sayNumber at h
  show X p l e R s m args below meth c 3 cy D B 0 0 Q 0 [(0, .ref (B + oMd)), (1, .int p1)] [] σ μ ω
  refine x_iconst C (v := 1) dX6_sayNumber_0 (by decide) ?_
  refine x_istore_n C [(2, .int (1 : Int32)), (0, .ref (B + oMd)), (1, .int p1)] dX6_sayNumber_1 rfl (by decide) rfl ?_
  obtain ⟨b2, hk5, h⟩ := Option.bind_eq_some_iff.mp h
  refine x_sub [1, 2, 0] rfl ?_
  refine loop_run (step := stX6_sayNumber_2 p1) (P := fun (a2 : Int32) => X p l e R s m args below meth c 3 cy D B 0 0 Q 2 [(0, .ref (B + oMd)), (1, .int p1), (2, .int a2)] [] σ μ ω) (K := fun (b2 : Int32) => X p l e R s m args below meth c 3 cy D B 0 0 Q 18 [(0, .ref (B + oMd)), (1, .int p1), (2, .int b2)] [] σ μ ω) ?_ 5000 ((1 : Int32)) b2 hk5 ?_
  · intro a2 r h hA1 hB2
    unfold stX6_sayNumber_2 at h
    refine x_iload_n C dX6_sayNumber_2 rfl 1 rfl ?_
    refine x_iload_n C dX6_sayNumber_3 rfl 2 rfl ?_
    obtain ⟨hg3, h⟩ := gd_some h
    refine x_idiv C dX6_sayNumber_4 hg3 ?_
    refine x_bipush C (v := 9) dX6_sayNumber_5 (by decide) ?_
    refine x_icmp_le C (tgt := 18) dX6_sayNumber_7 (by decide) (fun hc4 => ?_) (fun hc4 => ?_)
    · rw [if_pos hc4] at h
      cases h
      exact hB2 a2 rfl
    · rw [if_neg hc4] at h
      refine x_iload_n C dX6_sayNumber_10 rfl 2 rfl ?_
      refine x_bipush C (v := 10) dX6_sayNumber_11 (by decide) ?_
      refine x_imul C dX6_sayNumber_13 ?_
      refine x_istore_n C [(2, .int (a2 * (10 : Int32))), (0, .ref (B + oMd)), (1, .int p1)] dX6_sayNumber_14 rfl (by decide) rfl ?_
      refine x_goto C (tgt := 2) dX6_sayNumber_15 (by decide) ?_
      cases h
      refine x_sub [1, 2, 0] rfl ?_
      exact hA1 (a2 * (10 : Int32)) rfl
  · show X p l e R s m args below meth c 3 cy D B 0 0 Q 18 [(0, .ref (B + oMd)), (1, .int p1), (2, .int b2)] [] σ μ ω
    obtain ⟨b18, hk11, h⟩ := Option.bind_eq_some_iff.mp h
    refine loop_run (step := stX6_sayNumber_18 p1) (P := fun (a18 : Int32 × Mem) => X p l e R s m args below meth c 3 cy D B 0 0 Q 18 [(0, .ref (B + oMd)), (1, .int p1), (2, .int a18.1)] [] σ a18.2 ω) (K := fun (b18 : Mem) => X p l e R s m args below meth c 3 cy D B 0 0 Q 43 [] [] σ b18 ω) ?_ 5000 (b2, μ) b18 hk11 ?_
    · intro a18 r h hA6 hB7
      unfold stX6_sayNumber_18 at h
      refine x_iload_n C dX6_sayNumber_18 rfl 2 rfl ?_
      refine x_if_le C (tgt := 43) dX6_sayNumber_19 (by decide) (fun hc8 => ?_) (fun hc8 => ?_)
      · rw [if_pos hc8] at h
        cases h
        refine x_sub [] rfl ?_
        exact hB7 a18.2 rfl
      · rw [if_neg hc8] at h
        refine x_aload_n C dX6_sayNumber_22 rfl 0 rfl ?_
        refine x_bipush C (v := 48) dX6_sayNumber_23 (by decide) ?_
        refine x_iload_n C dX6_sayNumber_25 rfl 1 rfl ?_
        refine x_iload_n C dX6_sayNumber_26 rfl 2 rfl ?_
        obtain ⟨hg9, h⟩ := gd_some h
        refine x_idiv C dX6_sayNumber_27 hg9 ?_
        refine x_bipush C (v := 10) dX6_sayNumber_28 (by decide) ?_
        refine x_irem C dX6_sayNumber_30 (by decide) ?_
        refine x_iadd C dX6_sayNumber_31 ?_
        obtain ⟨q1, hk10, h⟩ := Option.bind_eq_some_iff.mp h
        refine x_callV C (As := [.int ((48 : Int32) + ((p1 / a18.1) - (p1 / a18.1) / (10 : Int32) * (10 : Int32)))]) (rest := []) (lw_g_mk tw_1711 rfl) (lw_g_mk tsel_90 rfl) (c_Md) (C1 := "HostelBedsModel") (T := TX6) (N := 27) (ci := 6) rfl (okX6_say l cy D B ek ((48 : Int32) + ((p1 / a18.1) - (p1 / a18.1) / (10 : Int32) * (10 : Int32))) σ a18.2 ω _ hk10) rfl rfl (by rw [hR9]; decide) (lw_g_mk tw_1712 rfl) (lw_g_mk tw_7 rfl) (by decide) rfl (lw_g_mk tw_1709 rfl) rfl (Nat.le_of_ble_eq_true rfl) dX6_sayNumber_32 (by rw [hR9]; decide) ?_
        refine x_iload_n C dX6_sayNumber_35 rfl 2 rfl ?_
        refine x_bipush C (v := 10) dX6_sayNumber_36 (by decide) ?_
        refine x_idiv C dX6_sayNumber_38 (by decide) ?_
        refine x_istore_n C [(2, .int (a18.1 / (10 : Int32))), (0, .ref (B + oMd)), (1, .int p1)] dX6_sayNumber_39 rfl (by decide) rfl ?_
        refine x_goto C (tgt := 18) dX6_sayNumber_40 (by decide) ?_
        cases h
        refine x_sub [1, 2, 0] rfl ?_
        exact hA6 (a18.1 / (10 : Int32), q1) rfl
    · show X p l e R s m args below meth c 3 cy D B 0 0 Q 43 [] [] σ b18 ω
      cases h
      exact hret _ _ dX6_sayNumber_43
def jX6_sayName_31 (a3 : Int32 × Mem) (μ1 : Mem) : Option ((Int32 × Mem) ⊕ (Mem)) := (some (.inl (a3.1 + (-5 : Int32), μ1)))
def stX6_sayName_3 (p1 : Int64) (a3 : Int32 × Mem) : Option ((Int32 × Mem) ⊕ (Mem)) := (if a3.1 < 0 then (some (.inr a3.2)) else (if (((p1 >>> (a3.1.toInt64 &&& 63)) &&& (31 : Int64)).toInt32) ≤ 0 then (jX6_sayName_31 a3 a3.2) else ((fX6_say ((((p1 >>> (a3.1.toInt64 &&& 63)) &&& (31 : Int64)).toInt32) + (96 : Int32)) a3.2).bind fun q2 => (jX6_sayName_31 a3 q2))))
def fX6_sayName (p1 : Int64) (μ : Mem) : Option (Mem) := ((loop (stX6_sayName_3 p1) 5000 ((35 : Int32), μ)).bind fun b3 => (some b3))
set_option maxHeartbeats 4000000 in
set_option maxRecDepth 100000 in
theorem okX6_sayName (l : Launch) (cy : Nat → ClassId) (D : va_G) (B : Nat) (ek : EK) (p1 : Int64) (σ μ ω : Mem) (res : Mem) (h : fX6_sayName p1 μ = some res) : CT l cy D B ek yX6_sayName cX6_sayName 5 none ({ frames := 1, cells := 0, slots := 0, locals := 21 } : Room) [.ref (B + oMd), .long p1] σ μ ω none σ res ω := by
  refine met_X (own := "HostelBedsModel") (by decide) rfl (Nat.le_of_ble_eq_true rfl) ?_
  intro p e s m args below meth c C hrT hlk
  have hret : ∀ (pc9 : Nat) (lcs9 : List (Nat × Value)), decode cX6_sayName pc9 = .ok (.return_, 1) → X p l e ({ frames := 1, cells := 0, slots := 0, locals := 21 } : Room) s m args below meth c 5 cy D B 0 0 (MQ below (QR cy D B none σ res ω) args s 0 0 (aB B)) pc9 lcs9 [] σ res ω := fun _ _ hd => x_vret C hrT hlk hd
  generalize (MQ below (QR cy D B none σ res ω) args s 0 0 (aB B)) = Q at hret ⊢
  obtain ⟨R, hR9⟩ : ∃ R : Room, R = ({ frames := 1, cells := 0, slots := 0, locals := 21 } : Room) := ⟨_, rfl⟩
  rw [← hR9] at hret ⊢
  unfold fX6_sayName at h
  show X p l e R s m args below meth c 5 cy D B 0 0 Q 0 [(0, .ref (B + oMd)), (1, .long p1)] [] σ μ ω
  refine x_bipush C (v := 35) dX6_sayName_0 (by decide) ?_
  refine x_istore_n C [(3, .int (35 : Int32)), (0, .ref (B + oMd)), (1, .long p1)] dX6_sayName_2 rfl (by decide) rfl ?_
  obtain ⟨b3, hk7, h⟩ := Option.bind_eq_some_iff.mp h
  refine x_sub [1, 2, 0] rfl ?_
  refine loop_run (step := stX6_sayName_3 p1) (P := fun (a3 : Int32 × Mem) => X p l e R s m args below meth c 5 cy D B 0 0 Q 3 [(0, .ref (B + oMd)), (1, .long p1), (3, .int a3.1)] [] σ a3.2 ω) (K := fun (b3 : Mem) => X p l e R s m args below meth c 5 cy D B 0 0 Q 37 [] [] σ b3 ω) ?_ 5000 ((35 : Int32), μ) b3 hk7 ?_
  · intro a3 r h hA1 hB2
    unfold stX6_sayName_3 at h
    refine x_iload_n C dX6_sayName_3 rfl 2 rfl ?_
    refine x_if_lt C (tgt := 37) dX6_sayName_4 (by decide) (fun hc3 => ?_) (fun hc3 => ?_)
    · rw [if_pos hc3] at h
      cases h
      refine x_sub [] rfl ?_
      exact hB2 a3.2 rfl
    · rw [if_neg hc3] at h
      refine x_lload_n C dX6_sayName_7 rfl 1 rfl ?_
      refine x_iload_n C dX6_sayName_8 rfl 2 rfl ?_
      refine x_lshr C dX6_sayName_9 ?_
      refine x_ldc2 C (v := 31) (lw_g_mk tw_1717 rfl) dX6_sayName_10 ?_
      refine x_land C dX6_sayName_13 ?_
      refine x_l2i C dX6_sayName_14 ?_
      refine x_istore C [(4, .int (((p1 >>> (a3.1.toInt64 &&& 63)) &&& (31 : Int64)).toInt32)), (0, .ref (B + oMd)), (1, .long p1), (3, .int a3.1)] dX6_sayName_15 (by decide) rfl ?_
      refine x_iload C dX6_sayName_17 0 rfl ?_
      have hJ4 : ∀ (μ1 : Mem) (r9 : (Int32 × Mem) ⊕ (Mem)), jX6_sayName_31 a3 μ1 = some r9 → (∀ a2, r9 = .inl a2 → (fun (a3 : Int32 × Mem) => X p l e R s m args below meth c 5 cy D B 0 0 Q 3 [(0, .ref (B + oMd)), (1, .long p1), (3, .int a3.1)] [] σ a3.2 ω) a2) → (∀ b2, r9 = .inr b2 → (fun (b3 : Mem) => X p l e R s m args below meth c 5 cy D B 0 0 Q 37 [] [] σ b3 ω) b2) → X p l e R s m args below meth c 5 cy D B 0 0 Q 31 [(0, .ref (B + oMd)), (1, .long p1), (3, .int a3.1)] [] σ μ1 ω := by
        intro μ1 r h hA1 hB2
        unfold jX6_sayName_31 at h
        refine x_iinc C (k := 2) [(3, .int (a3.1 + (-5 : Int32))), (0, .ref (B + oMd)), (1, .long p1)] dX6_sayName_31 rfl rfl (by decide) rfl ?_
        refine x_goto C (tgt := 3) dX6_sayName_34 (by decide) ?_
        cases h
        refine x_sub [1, 2, 0] rfl ?_
        exact hA1 (a3.1 + (-5 : Int32), μ1) rfl
      refine x_if_le C (tgt := 31) dX6_sayName_19 (by decide) (fun hc5 => ?_) (fun hc5 => ?_)
      · rw [if_pos hc5] at h
        refine x_sub [1, 2, 3] rfl ?_
        exact hJ4 a3.2 _ h hA1 hB2
      · rw [if_neg hc5] at h
        refine x_aload_n C dX6_sayName_22 rfl 1 rfl ?_
        refine x_iload C dX6_sayName_23 0 rfl ?_
        refine x_bipush C (v := 96) dX6_sayName_25 (by decide) ?_
        refine x_iadd C dX6_sayName_27 ?_
        obtain ⟨q2, hk6, h⟩ := Option.bind_eq_some_iff.mp h
        refine x_callV C (As := [.int ((((p1 >>> (a3.1.toInt64 &&& 63)) &&& (31 : Int64)).toInt32) + (96 : Int32))]) (rest := []) (lw_g_mk tw_1711 rfl) (lw_g_mk tsel_90 rfl) (c_Md) (C1 := "HostelBedsModel") (T := TX6) (N := 27) (ci := 6) rfl (okX6_say l cy D B ek ((((p1 >>> (a3.1.toInt64 &&& 63)) &&& (31 : Int64)).toInt32) + (96 : Int32)) σ a3.2 ω _ hk6) rfl rfl (by rw [hR9]; decide) (lw_g_mk tw_1712 rfl) (lw_g_mk tw_7 rfl) (by decide) rfl (lw_g_mk tw_1709 rfl) rfl (Nat.le_of_ble_eq_true rfl) dX6_sayName_28 (by rw [hR9]; decide) ?_
        refine x_sub [1, 2, 3] rfl ?_
        exact hJ4 q2 _ h hA1 hB2
  · show X p l e R s m args below meth c 5 cy D B 0 0 Q 37 [] [] σ b3 ω
    cases h
    exact hret _ _ dX6_sayName_37
def jX6_format_54 (a29 : Int32 × Mem) (p1 : Int32) (μ4 : Mem) : Option ((Int32 × Mem) ⊕ (Mem)) := (gd (inb a29.1 8) ((fX6_sayName (rJ μ4 11 0 a29.1.toNatClampNeg) μ4).bind fun q5 => ((fX6_say (32 : Int32) q5).bind fun q6 => ((fX6_roomIs a29.1 (1 : Int32) q6).bind fun q7 => ((fX6_freeIn a29.1 p1 q6).bind fun q8 => ((fX6_sayNumber (q7 - q8) q6).bind fun q9 => ((fX6_say (47 : Int32) q9).bind fun q10 => ((fX6_roomIs a29.1 (1 : Int32) q10).bind fun q11 => ((fX6_sayNumber q11 q10).bind fun q12 => (some (.inl (a29.1 + (1 : Int32), q12))))))))))))
def stX6_format_29 (p1 : Int32) (a29 : Int32 × Mem) : Option ((Int32 × Mem) ⊕ (Mem)) := ((fX6_get (4 : Int32) a29.2).bind fun q3 => (if q3 ≤ a29.1 then (some (.inr a29.2)) else (if a29.1 ≤ 0 then (jX6_format_54 a29 p1 a29.2) else ((fX6_say (44 : Int32) a29.2).bind fun q13 => ((fX6_say (32 : Int32) q13).bind fun q14 => (jX6_format_54 a29 p1 q14))))))
def jX6_format_136 (μ16 : Mem) : Option (Int32 × Mem) := (some (rI μ16 69 0 0, μ16))
def fX6_format (p1 : Int32) (μ : Mem) : Option (Int32 × Mem) := ((fX6_isNight p1).bind fun q1 => (if ¬ q1 = 0 then ((fX6_placesAll (wI μ 60 0 0 (0 : Int32))).bind fun q2 => ((loop (stX6_format_29 p1) 5000 ((0 : Int32), wI q2 69 0 0 (0 : Int32))).bind fun b29 => ((fX6_walkedIn p1 b29).bind fun q15 => (if q15 ≤ 0 then (jX6_format_136 b29) else ((fX6_say (32 : Int32) b29).bind fun q17 => ((fX6_say (43 : Int32) q17).bind fun q18 => ((fX6_sayNumber q15 q18).bind fun q19 => (jX6_format_136 q19)))))))) else ((fX6_fails (1 : Int32) (wI μ 60 0 0 (0 : Int32))).bind fun q20 => (some (q20.1, q20.2)))))
set_option maxHeartbeats 4000000 in
set_option maxRecDepth 100000 in
theorem okX6_format (l : Launch) (cy : Nat → ClassId) (D : va_G) (B : Nat) (ek : EK) (p1 : Int32) (σ μ ω : Mem) (res : Int32 × Mem) (h : fX6_format p1 μ = some res) : CT l cy D B ek yX6_format cX6_format 3 (some .int) ({ frames := 8, cells := 0, slots := 0, locals := 185 } : Room) [.ref (B + oMd), .int p1] σ μ ω (some (.int res.1)) σ res.2 ω := by
  refine met_X (own := "HostelBedsModel") (by decide) rfl (Nat.le_of_ble_eq_true rfl) ?_
  intro p e s m args below meth c C hrT hlk
  have hret : ∀ (pc9 : Nat) (lcs9 : List (Nat × Value)), decode cX6_format pc9 = .ok (.ireturn, 1) → narrow .int (.int res.1) = .int res.1 → X p l e ({ frames := 8, cells := 0, slots := 0, locals := 185 } : Room) s m args below meth c 3 cy D B 0 0 (MQ below (QR cy D B (some (.int res.1)) σ res.2 ω) args s 0 0 (aB B)) pc9 lcs9 [.int res.1] σ res.2 ω := fun _ _ hd hn => x_zret C hrT hlk hn hd
  generalize (MQ below (QR cy D B (some (.int res.1)) σ res.2 ω) args s 0 0 (aB B)) = Q at hret ⊢
  obtain ⟨R, hR9⟩ : ∃ R : Room, R = ({ frames := 8, cells := 0, slots := 0, locals := 185 } : Room) := ⟨_, rfl⟩
  rw [← hR9] at hret ⊢
  unfold fX6_format at h
  show X p l e R s m args below meth c 3 cy D B 0 0 Q 0 [(0, .ref (B + oMd)), (1, .int p1)] [] σ μ ω
  refine x_aload_n C dX6_format_0 rfl 0 rfl ?_
  refine x_iconst C (v := 0) dX6_format_1 (by decide) ?_
  refine x_put C (C1 := "HostelBedsModel") (T := TX6) (N := 27) (ci := 6) inXg6 tyX6 tyX6_ok nmX6 _ (c_Md) rfl 0 (by decide) (lw_g_mk tw_1131 rfl) rfl rfl rfl rfl (Nat.le_of_ble_eq_true rfl) dX6_format_2 (s_Md_thrown) ?_
  refine x_iload_n C dX6_format_5 rfl 1 rfl ?_
  obtain ⟨q1, hk1, h⟩ := Option.bind_eq_some_iff.mp h
  refine x_callS C (As := [.int p1]) (rest := []) (lw_g_mk tw_1536 rfl) (okX6_isNight l cy D B ek p1 σ (wI μ 60 0 0 (0 : Int32)) ω _ hk1) rfl rfl (by rw [hR9]; decide) (lw_g_mk tw_1537 rfl) (lw_g_mk tw_7 rfl) (by decide) rfl (lw_g_mk tw_1535 rfl) rfl (Nat.le_of_ble_eq_true rfl) dX6_format_6 (by rw [hR9]; decide) ?_
  refine x_if_ne C (tgt := 18) dX6_format_9 (by decide) (fun hc2 => ?_) (fun hc2 => ?_)
  · rw [if_pos hc2] at h
    refine x_aload_n C dX6_format_18 rfl 0 rfl ?_
    obtain ⟨q2, hk3, h⟩ := Option.bind_eq_some_iff.mp h
    refine x_callV C (As := []) (rest := []) (lw_g_mk tw_1451 rfl) (lw_g_mk tsel_60 rfl) (c_Md) (C1 := "HostelBedsModel") (T := TX6) (N := 27) (ci := 6) rfl (okX6_placesAll l cy D B ek σ (wI μ 60 0 0 (0 : Int32)) ω _ hk3) rfl rfl (by rw [hR9]; decide) (lw_g_mk tw_1452 rfl) (lw_g_mk tw_7 rfl) (by decide) rfl (lw_g_mk tw_1449 rfl) rfl (Nat.le_of_ble_eq_true rfl) dX6_format_19 (by rw [hR9]; decide) ?_
    refine x_aload_n C dX6_format_22 rfl 0 rfl ?_
    refine x_iconst C (v := 0) dX6_format_23 (by decide) ?_
    refine x_put C (C1 := "HostelBedsModel") (T := TX6) (N := 27) (ci := 6) inXg6 tyX6 tyX6_ok nmX6 _ (c_Md) rfl 13 (by decide) (lw_g_mk tw_1144 rfl) rfl rfl rfl rfl (Nat.le_of_ble_eq_true rfl) dX6_format_24 (s_Md_formattedLength) ?_
    refine x_iconst C (v := 0) dX6_format_27 (by decide) ?_
    refine x_istore_n C [(2, .int (0 : Int32)), (0, .ref (B + oMd)), (1, .int p1)] dX6_format_28 rfl (by decide) rfl ?_
    obtain ⟨b29, hk21, h⟩ := Option.bind_eq_some_iff.mp h
    refine x_sub [1, 2, 0] rfl ?_
    refine loop_run (step := stX6_format_29 p1) (P := fun (a29 : Int32 × Mem) => X p l e R s m args below meth c 3 cy D B 0 0 Q 29 [(0, .ref (B + oMd)), (1, .int p1), (2, .int a29.1)] [] σ a29.2 ω) (K := fun (b29 : Mem) => X p l e R s m args below meth c 3 cy D B 0 0 Q 109 [(0, .ref (B + oMd)), (1, .int p1)] [] σ b29 ω) ?_ 5000 ((0 : Int32), wI q2 69 0 0 (0 : Int32)) b29 hk21 ?_
    · intro a29 r h hA4 hB5
      unfold stX6_format_29 at h
      refine x_iload_n C dX6_format_29 rfl 2 rfl ?_
      refine x_aload_n C dX6_format_30 rfl 0 rfl ?_
      refine x_iconst C (v := 4) dX6_format_31 (by decide) ?_
      obtain ⟨q3, hk6, h⟩ := Option.bind_eq_some_iff.mp h
      refine x_callV C (As := [.int (4 : Int32)]) (rest := [.int a29.1]) (lw_g_mk tw_1296 rfl) (lw_g_mk tsel_31 rfl) (c_Md) (C1 := "HostelBedsModel") (T := TX6) (N := 27) (ci := 6) rfl (okX6_get l cy D B ek (4 : Int32) σ a29.2 ω _ hk6) rfl rfl (by rw [hR9]; decide) (lw_g_mk tw_1297 rfl) (lw_g_mk tw_7 rfl) (by decide) rfl (lw_g_mk tw_1294 rfl) rfl (Nat.le_of_ble_eq_true rfl) dX6_format_32 (by rw [hR9]; decide) ?_
      refine x_icmp_ge C (tgt := 109) dX6_format_35 (by decide) (fun hc7 => ?_) (fun hc7 => ?_)
      · rw [if_pos hc7] at h
        cases h
        refine x_sub [0, 1] rfl ?_
        exact hB5 a29.2 rfl
      · rw [if_neg hc7] at h
        refine x_iload_n C dX6_format_38 rfl 2 rfl ?_
        have hJ17 : ∀ (μ4 : Mem) (r9 : (Int32 × Mem) ⊕ (Mem)), jX6_format_54 a29 p1 μ4 = some r9 → (∀ a2, r9 = .inl a2 → (fun (a29 : Int32 × Mem) => X p l e R s m args below meth c 3 cy D B 0 0 Q 29 [(0, .ref (B + oMd)), (1, .int p1), (2, .int a29.1)] [] σ a29.2 ω) a2) → (∀ b2, r9 = .inr b2 → (fun (b29 : Mem) => X p l e R s m args below meth c 3 cy D B 0 0 Q 109 [(0, .ref (B + oMd)), (1, .int p1)] [] σ b29 ω) b2) → X p l e R s m args below meth c 3 cy D B 0 0 Q 54 [(0, .ref (B + oMd)), (1, .int p1), (2, .int a29.1)] [] σ μ4 ω := by
          intro μ4 r h hA4 hB5
          unfold jX6_format_54 at h
          refine x_aload_n C dX6_format_54 rfl 0 rfl ?_
          refine x_aload_n C dX6_format_55 rfl 0 rfl ?_
          refine x_get C (C1 := "HostelBedsModel") (T := TX6) (N := 27) (ci := 6) inXg6 _ (c_Md) rfl 5 (by decide) (lw_g_mk tw_1136 rfl) rfl dX6_format_56 ?_
          refine x_iload_n C dX6_format_59 rfl 2 rfl ?_
          obtain ⟨hg8, h⟩ := gd_some h
          refine x_lald C _ (c_RN) hg8 dX6_format_60 ?_
          obtain ⟨q5, hk9, h⟩ := Option.bind_eq_some_iff.mp h
          refine x_callV C (As := [.long (rJ μ4 11 0 a29.1.toNatClampNeg)]) (rest := []) (lw_g_mk tw_1715 rfl) (lw_g_mk tsel_91 rfl) (c_Md) (C1 := "HostelBedsModel") (T := TX6) (N := 27) (ci := 6) rfl (okX6_sayName l cy D B ek (rJ μ4 11 0 a29.1.toNatClampNeg) σ μ4 ω _ hk9) rfl rfl (by rw [hR9]; decide) (lw_g_mk tw_1716 rfl) (lw_g_mk tw_7 rfl) (by decide) rfl (lw_g_mk tw_1713 rfl) rfl (Nat.le_of_ble_eq_true rfl) dX6_format_61 (by rw [hR9]; decide) ?_
          refine x_aload_n C dX6_format_64 rfl 0 rfl ?_
          refine x_bipush C (v := 32) dX6_format_65 (by decide) ?_
          obtain ⟨q6, hk10, h⟩ := Option.bind_eq_some_iff.mp h
          refine x_callV C (As := [.int (32 : Int32)]) (rest := []) (lw_g_mk tw_1711 rfl) (lw_g_mk tsel_90 rfl) (c_Md) (C1 := "HostelBedsModel") (T := TX6) (N := 27) (ci := 6) rfl (okX6_say l cy D B ek (32 : Int32) σ q5 ω _ hk10) rfl rfl (by rw [hR9]; decide) (lw_g_mk tw_1712 rfl) (lw_g_mk tw_7 rfl) (by decide) rfl (lw_g_mk tw_1709 rfl) rfl (Nat.le_of_ble_eq_true rfl) dX6_format_67 (by rw [hR9]; decide) ?_
          refine x_aload_n C dX6_format_70 rfl 0 rfl ?_
          refine x_aload_n C dX6_format_71 rfl 0 rfl ?_
          refine x_iload_n C dX6_format_72 rfl 2 rfl ?_
          refine x_iconst C (v := 1) dX6_format_73 (by decide) ?_
          obtain ⟨q7, hk11, h⟩ := Option.bind_eq_some_iff.mp h
          refine x_callV C (As := [.int a29.1, .int (1 : Int32)]) (rest := [.ref (B + oMd)]) (lw_g_mk tw_1359 rfl) (lw_g_mk tsel_46 rfl) (c_Md) (C1 := "HostelBedsModel") (T := TX6) (N := 27) (ci := 6) rfl (okX6_roomIs l cy D B ek a29.1 (1 : Int32) σ q6 ω _ hk11) rfl rfl (by rw [hR9]; decide) (lw_g_mk tw_1360 rfl) (lw_g_mk tw_7 rfl) (by decide) rfl (lw_g_mk tw_1357 rfl) rfl (Nat.le_of_ble_eq_true rfl) dX6_format_74 (by rw [hR9]; decide) ?_
          refine x_aload_n C dX6_format_77 rfl 0 rfl ?_
          refine x_iload_n C dX6_format_78 rfl 2 rfl ?_
          refine x_iload_n C dX6_format_79 rfl 1 rfl ?_
          obtain ⟨q8, hk12, h⟩ := Option.bind_eq_some_iff.mp h
          refine x_callV C (As := [.int a29.1, .int p1]) (rest := [.int q7, .ref (B + oMd)]) (lw_g_mk tw_1544 rfl) (lw_g_mk tsel_76 rfl) (c_Md) (C1 := "HostelBedsModel") (T := TX6) (N := 27) (ci := 6) rfl (okX6_freeIn l cy D B ek a29.1 p1 σ q6 ω _ hk12) rfl rfl (by rw [hR9]; decide) (lw_g_mk tw_1545 rfl) (lw_g_mk tw_7 rfl) (by decide) rfl (lw_g_mk tw_1542 rfl) rfl (Nat.le_of_ble_eq_true rfl) dX6_format_80 (by rw [hR9]; decide) ?_
          refine x_isub C dX6_format_83 ?_
          obtain ⟨q9, hk13, h⟩ := Option.bind_eq_some_iff.mp h
          refine x_callV C (As := [.int (q7 - q8)]) (rest := []) (lw_g_mk tw_1720 rfl) (lw_g_mk tsel_92 rfl) (c_Md) (C1 := "HostelBedsModel") (T := TX6) (N := 27) (ci := 6) rfl (okX6_sayNumber l cy D B ek (q7 - q8) σ q6 ω _ hk13) rfl rfl (by rw [hR9]; decide) (lw_g_mk tw_1721 rfl) (lw_g_mk tw_7 rfl) (by decide) rfl (lw_g_mk tw_1718 rfl) rfl (Nat.le_of_ble_eq_true rfl) dX6_format_84 (by rw [hR9]; decide) ?_
          refine x_aload_n C dX6_format_87 rfl 0 rfl ?_
          refine x_bipush C (v := 47) dX6_format_88 (by decide) ?_
          obtain ⟨q10, hk14, h⟩ := Option.bind_eq_some_iff.mp h
          refine x_callV C (As := [.int (47 : Int32)]) (rest := []) (lw_g_mk tw_1711 rfl) (lw_g_mk tsel_90 rfl) (c_Md) (C1 := "HostelBedsModel") (T := TX6) (N := 27) (ci := 6) rfl (okX6_say l cy D B ek (47 : Int32) σ q9 ω _ hk14) rfl rfl (by rw [hR9]; decide) (lw_g_mk tw_1712 rfl) (lw_g_mk tw_7 rfl) (by decide) rfl (lw_g_mk tw_1709 rfl) rfl (Nat.le_of_ble_eq_true rfl) dX6_format_90 (by rw [hR9]; decide) ?_
          refine x_aload_n C dX6_format_93 rfl 0 rfl ?_
          refine x_aload_n C dX6_format_94 rfl 0 rfl ?_
          refine x_iload_n C dX6_format_95 rfl 2 rfl ?_
          refine x_iconst C (v := 1) dX6_format_96 (by decide) ?_
          obtain ⟨q11, hk15, h⟩ := Option.bind_eq_some_iff.mp h
          refine x_callV C (As := [.int a29.1, .int (1 : Int32)]) (rest := [.ref (B + oMd)]) (lw_g_mk tw_1359 rfl) (lw_g_mk tsel_46 rfl) (c_Md) (C1 := "HostelBedsModel") (T := TX6) (N := 27) (ci := 6) rfl (okX6_roomIs l cy D B ek a29.1 (1 : Int32) σ q10 ω _ hk15) rfl rfl (by rw [hR9]; decide) (lw_g_mk tw_1360 rfl) (lw_g_mk tw_7 rfl) (by decide) rfl (lw_g_mk tw_1357 rfl) rfl (Nat.le_of_ble_eq_true rfl) dX6_format_97 (by rw [hR9]; decide) ?_
          obtain ⟨q12, hk16, h⟩ := Option.bind_eq_some_iff.mp h
          refine x_callV C (As := [.int q11]) (rest := []) (lw_g_mk tw_1720 rfl) (lw_g_mk tsel_92 rfl) (c_Md) (C1 := "HostelBedsModel") (T := TX6) (N := 27) (ci := 6) rfl (okX6_sayNumber l cy D B ek q11 σ q10 ω _ hk16) rfl rfl (by rw [hR9]; decide) (lw_g_mk tw_1721 rfl) (lw_g_mk tw_7 rfl) (by decide) rfl (lw_g_mk tw_1718 rfl) rfl (Nat.le_of_ble_eq_true rfl) dX6_format_100 (by rw [hR9]; decide) ?_
          refine x_iinc C (k := 2) [(2, .int (a29.1 + (1 : Int32))), (0, .ref (B + oMd)), (1, .int p1)] dX6_format_103 rfl rfl (by decide) rfl ?_
          refine x_goto C (tgt := 29) dX6_format_106 (by decide) ?_
          cases h
          refine x_sub [1, 2, 0] rfl ?_
          exact hA4 (a29.1 + (1 : Int32), q12) rfl
        refine x_if_le C (tgt := 54) dX6_format_39 (by decide) (fun hc18 => ?_) (fun hc18 => ?_)
        · rw [if_pos hc18] at h
          exact hJ17 a29.2 _ h hA4 hB5
        · rw [if_neg hc18] at h
          refine x_aload_n C dX6_format_42 rfl 0 rfl ?_
          refine x_bipush C (v := 44) dX6_format_43 (by decide) ?_
          obtain ⟨q13, hk19, h⟩ := Option.bind_eq_some_iff.mp h
          refine x_callV C (As := [.int (44 : Int32)]) (rest := []) (lw_g_mk tw_1711 rfl) (lw_g_mk tsel_90 rfl) (c_Md) (C1 := "HostelBedsModel") (T := TX6) (N := 27) (ci := 6) rfl (okX6_say l cy D B ek (44 : Int32) σ a29.2 ω _ hk19) rfl rfl (by rw [hR9]; decide) (lw_g_mk tw_1712 rfl) (lw_g_mk tw_7 rfl) (by decide) rfl (lw_g_mk tw_1709 rfl) rfl (Nat.le_of_ble_eq_true rfl) dX6_format_45 (by rw [hR9]; decide) ?_
          refine x_aload_n C dX6_format_48 rfl 0 rfl ?_
          refine x_bipush C (v := 32) dX6_format_49 (by decide) ?_
          obtain ⟨q14, hk20, h⟩ := Option.bind_eq_some_iff.mp h
          refine x_callV C (As := [.int (32 : Int32)]) (rest := []) (lw_g_mk tw_1711 rfl) (lw_g_mk tsel_90 rfl) (c_Md) (C1 := "HostelBedsModel") (T := TX6) (N := 27) (ci := 6) rfl (okX6_say l cy D B ek (32 : Int32) σ q13 ω _ hk20) rfl rfl (by rw [hR9]; decide) (lw_g_mk tw_1712 rfl) (lw_g_mk tw_7 rfl) (by decide) rfl (lw_g_mk tw_1709 rfl) rfl (Nat.le_of_ble_eq_true rfl) dX6_format_51 (by rw [hR9]; decide) ?_
          exact hJ17 q14 _ h hA4 hB5
    · show X p l e R s m args below meth c 3 cy D B 0 0 Q 109 [(0, .ref (B + oMd)), (1, .int p1)] [] σ b29 ω
      refine x_aload_n C dX6_format_109 rfl 0 rfl ?_
      refine x_iload_n C dX6_format_110 rfl 1 rfl ?_
      obtain ⟨q15, hk22, h⟩ := Option.bind_eq_some_iff.mp h
      refine x_callV C (As := [.int p1]) (rest := []) (lw_g_mk tw_1564 rfl) (lw_g_mk tsel_78 rfl) (c_Md) (C1 := "HostelBedsModel") (T := TX6) (N := 27) (ci := 6) rfl (okX6_walkedIn l cy D B ek p1 σ b29 ω _ hk22) rfl rfl (by rw [hR9]; decide) (lw_g_mk tw_1565 rfl) (lw_g_mk tw_7 rfl) (by decide) rfl (lw_g_mk tw_1562 rfl) rfl (Nat.le_of_ble_eq_true rfl) dX6_format_111 (by rw [hR9]; decide) ?_
      refine x_istore_n C [(2, .int q15), (0, .ref (B + oMd)), (1, .int p1)] dX6_format_114 rfl (by decide) rfl ?_
      refine x_iload_n C dX6_format_115 rfl 0 rfl ?_
      have hJ23 : ∀ (μ16 : Mem) (r9 : Int32 × Mem), jX6_format_136 μ16 = some r9 → (∀ (pc9 : Nat) (lcs9 : List (Nat × Value)), decode cX6_format pc9 = .ok (.ireturn, 1) → narrow .int (.int r9.1) = .int r9.1 → X p l e R s m args below meth c 3 cy D B 0 0 Q pc9 lcs9 [.int r9.1] σ r9.2 ω) → X p l e R s m args below meth c 3 cy D B 0 0 Q 136 [(0, .ref (B + oMd))] [] σ μ16 ω := by
        intro μ16 res9 h hret
        unfold jX6_format_136 at h
        refine x_aload_n C dX6_format_136 rfl 0 rfl ?_
        refine x_get C (C1 := "HostelBedsModel") (T := TX6) (N := 27) (ci := 6) inXg6 _ (c_Md) rfl 13 (by decide) (lw_g_mk tw_1144 rfl) rfl dX6_format_137 ?_
        cases h
        exact hret _ _ dX6_format_140 rfl
      refine x_if_le C (tgt := 136) dX6_format_116 (by decide) (fun hc24 => ?_) (fun hc24 => ?_)
      · rw [if_pos hc24] at h
        refine x_sub [1] rfl ?_
        exact hJ23 b29 _ h hret
      · rw [if_neg hc24] at h
        refine x_aload_n C dX6_format_119 rfl 1 rfl ?_
        refine x_bipush C (v := 32) dX6_format_120 (by decide) ?_
        obtain ⟨q17, hk25, h⟩ := Option.bind_eq_some_iff.mp h
        refine x_callV C (As := [.int (32 : Int32)]) (rest := []) (lw_g_mk tw_1711 rfl) (lw_g_mk tsel_90 rfl) (c_Md) (C1 := "HostelBedsModel") (T := TX6) (N := 27) (ci := 6) rfl (okX6_say l cy D B ek (32 : Int32) σ b29 ω _ hk25) rfl rfl (by rw [hR9]; decide) (lw_g_mk tw_1712 rfl) (lw_g_mk tw_7 rfl) (by decide) rfl (lw_g_mk tw_1709 rfl) rfl (Nat.le_of_ble_eq_true rfl) dX6_format_122 (by rw [hR9]; decide) ?_
        refine x_aload_n C dX6_format_125 rfl 1 rfl ?_
        refine x_bipush C (v := 43) dX6_format_126 (by decide) ?_
        obtain ⟨q18, hk26, h⟩ := Option.bind_eq_some_iff.mp h
        refine x_callV C (As := [.int (43 : Int32)]) (rest := []) (lw_g_mk tw_1711 rfl) (lw_g_mk tsel_90 rfl) (c_Md) (C1 := "HostelBedsModel") (T := TX6) (N := 27) (ci := 6) rfl (okX6_say l cy D B ek (43 : Int32) σ q17 ω _ hk26) rfl rfl (by rw [hR9]; decide) (lw_g_mk tw_1712 rfl) (lw_g_mk tw_7 rfl) (by decide) rfl (lw_g_mk tw_1709 rfl) rfl (Nat.le_of_ble_eq_true rfl) dX6_format_128 (by rw [hR9]; decide) ?_
        refine x_aload_n C dX6_format_131 rfl 1 rfl ?_
        refine x_iload_n C dX6_format_132 rfl 0 rfl ?_
        obtain ⟨q19, hk27, h⟩ := Option.bind_eq_some_iff.mp h
        refine x_callV C (As := [.int q15]) (rest := []) (lw_g_mk tw_1720 rfl) (lw_g_mk tsel_92 rfl) (c_Md) (C1 := "HostelBedsModel") (T := TX6) (N := 27) (ci := 6) rfl (okX6_sayNumber l cy D B ek q15 σ q18 ω _ hk27) rfl rfl (by rw [hR9]; decide) (lw_g_mk tw_1721 rfl) (lw_g_mk tw_7 rfl) (by decide) rfl (lw_g_mk tw_1718 rfl) rfl (Nat.le_of_ble_eq_true rfl) dX6_format_133 (by rw [hR9]; decide) ?_
        refine x_sub [1] rfl ?_
        exact hJ23 q19 _ h hret
  · rw [if_neg hc2] at h
    refine x_aload_n C dX6_format_12 rfl 0 rfl ?_
    refine x_iconst C (v := 1) dX6_format_13 (by decide) ?_
    obtain ⟨q20, hk28, h⟩ := Option.bind_eq_some_iff.mp h
    refine x_callV C (As := [.int (1 : Int32)]) (rest := []) (lw_g_mk tw_1224 rfl) (lw_g_mk tsel_18 rfl) (c_Md) (C1 := "HostelBedsModel") (T := TX6) (N := 27) (ci := 6) rfl (okX6_fails l cy D B ek (1 : Int32) σ (wI μ 60 0 0 (0 : Int32)) ω _ hk28) rfl rfl (by rw [hR9]; decide) (lw_g_mk tw_1225 rfl) (lw_g_mk tw_7 rfl) (by decide) rfl (lw_g_mk tw_1222 rfl) rfl (Nat.le_of_ble_eq_true rfl) dX6_format_14 (by rw [hR9]; decide) ?_
    cases h
    exact hret _ _ dX6_format_17 rfl
def fX6_formattedCharacter (p1 : Int32) (μ : Mem) : Option (Int32 × Mem) := ((fX6_isIn p1 (0 : Int32) ((rI (wI μ 60 0 0 (0 : Int32)) 69 0 0) - (1 : Int32))).bind fun q1 => (if ¬ q1 = 0 then (gd (inb p1 200) (gd (vp_nar .char (rI (wI μ 60 0 0 (0 : Int32)) 68 0 p1.toNatClampNeg) = (rI (wI μ 60 0 0 (0 : Int32)) 68 0 p1.toNatClampNeg)) (some (rI (wI μ 60 0 0 (0 : Int32)) 68 0 p1.toNatClampNeg, wI μ 60 0 0 (0 : Int32))))) else (gd (vp_nar .char (0 : Int32) = (0 : Int32)) (some ((0 : Int32), wI (wI μ 60 0 0 (0 : Int32)) 60 0 0 (1 : Int32))))))
set_option maxHeartbeats 4000000 in
set_option maxRecDepth 100000 in
theorem okX6_formattedCharacter (l : Launch) (cy : Nat → ClassId) (D : va_G) (B : Nat) (ek : EK) (p1 : Int32) (σ μ ω : Mem) (res : Int32 × Mem) (h : fX6_formattedCharacter p1 μ = some res) : CT l cy D B ek yX6_formattedCharacter cX6_formattedCharacter 2 (some .char) ({ frames := 1, cells := 0, slots := 0, locals := 22 } : Room) [.ref (B + oMd), .int p1] σ μ ω (some (.int res.1)) σ res.2 ω := by
  refine met_X (own := "HostelBedsModel") (by decide) rfl (Nat.le_of_ble_eq_true rfl) ?_
  intro p e s m args below meth c C hrT hlk
  have hret : ∀ (pc9 : Nat) (lcs9 : List (Nat × Value)), decode cX6_formattedCharacter pc9 = .ok (.ireturn, 1) → narrow .char (.int res.1) = .int res.1 → X p l e ({ frames := 1, cells := 0, slots := 0, locals := 22 } : Room) s m args below meth c 2 cy D B 0 0 (MQ below (QR cy D B (some (.int res.1)) σ res.2 ω) args s 0 0 (aB B)) pc9 lcs9 [.int res.1] σ res.2 ω := fun _ _ hd hn => x_zret C hrT hlk hn hd
  generalize (MQ below (QR cy D B (some (.int res.1)) σ res.2 ω) args s 0 0 (aB B)) = Q at hret ⊢
  obtain ⟨R, hR9⟩ : ∃ R : Room, R = ({ frames := 1, cells := 0, slots := 0, locals := 22 } : Room) := ⟨_, rfl⟩
  rw [← hR9] at hret ⊢
  unfold fX6_formattedCharacter at h
  show X p l e R s m args below meth c 2 cy D B 0 0 Q 0 [(0, .ref (B + oMd)), (1, .int p1)] [] σ μ ω
  refine x_aload_n C dX6_formattedCharacter_0 rfl 0 rfl ?_
  refine x_iconst C (v := 0) dX6_formattedCharacter_1 (by decide) ?_
  refine x_put C (C1 := "HostelBedsModel") (T := TX6) (N := 27) (ci := 6) inXg6 tyX6 tyX6_ok nmX6 _ (c_Md) rfl 0 (by decide) (lw_g_mk tw_1131 rfl) rfl rfl rfl rfl (Nat.le_of_ble_eq_true rfl) dX6_formattedCharacter_2 (s_Md_thrown) ?_
  refine x_iload_n C dX6_formattedCharacter_5 rfl 1 rfl ?_
  refine x_iconst C (v := 0) dX6_formattedCharacter_6 (by decide) ?_
  refine x_aload_n C dX6_formattedCharacter_7 rfl 0 rfl ?_
  refine x_get C (C1 := "HostelBedsModel") (T := TX6) (N := 27) (ci := 6) inXg6 _ (c_Md) rfl 13 (by decide) (lw_g_mk tw_1144 rfl) rfl dX6_formattedCharacter_8 ?_
  refine x_iconst C (v := 1) dX6_formattedCharacter_11 (by decide) ?_
  refine x_isub C dX6_formattedCharacter_12 ?_
  obtain ⟨q1, hk1, h⟩ := Option.bind_eq_some_iff.mp h
  refine x_callS C (As := [.int p1, .int (0 : Int32), .int ((rI (wI μ 60 0 0 (0 : Int32)) 69 0 0) - (1 : Int32))]) (rest := []) (lw_g_mk tw_1235 rfl) (okX6_isIn l cy D B ek p1 (0 : Int32) ((rI (wI μ 60 0 0 (0 : Int32)) 69 0 0) - (1 : Int32)) σ (wI μ 60 0 0 (0 : Int32)) ω _ hk1) rfl rfl (by rw [hR9]; decide) (lw_g_mk tw_1236 rfl) (lw_g_mk tw_7 rfl) (by decide) rfl (lw_g_mk tw_1234 rfl) rfl (Nat.le_of_ble_eq_true rfl) dX6_formattedCharacter_13 (by rw [hR9]; decide) ?_
  refine x_if_ne C (tgt := 26) dX6_formattedCharacter_16 (by decide) (fun hc2 => ?_) (fun hc2 => ?_)
  · rw [if_pos hc2] at h
    refine x_aload_n C dX6_formattedCharacter_26 rfl 0 rfl ?_
    refine x_get C (C1 := "HostelBedsModel") (T := TX6) (N := 27) (ci := 6) inXg6 _ (c_Md) rfl 12 (by decide) (lw_g_mk tw_1143 rfl) rfl dX6_formattedCharacter_27 ?_
    refine x_iload_n C dX6_formattedCharacter_30 rfl 1 rfl ?_
    obtain ⟨hg3, h⟩ := gd_some h
    refine x_cald C _ (c_Fmt) hg3 dX6_formattedCharacter_31 ?_
    obtain ⟨hg4, h⟩ := gd_some h
    cases h
    exact hret _ _ dX6_formattedCharacter_32 (nar_C hg4)
  · rw [if_neg hc2] at h
    refine x_aload_n C dX6_formattedCharacter_19 rfl 0 rfl ?_
    refine x_iconst C (v := 1) dX6_formattedCharacter_20 (by decide) ?_
    refine x_put C (C1 := "HostelBedsModel") (T := TX6) (N := 27) (ci := 6) inXg6 tyX6 tyX6_ok nmX6 _ (c_Md) rfl 0 (by decide) (lw_g_mk tw_1131 rfl) rfl rfl rfl rfl (Nat.le_of_ble_eq_true rfl) dX6_formattedCharacter_21 (s_Md_thrown) ?_
    refine x_iconst C (v := 0) dX6_formattedCharacter_24 (by decide) ?_
    obtain ⟨hg5, h⟩ := gd_some h
    cases h
    exact hret _ _ dX6_formattedCharacter_25 (nar_C hg5)
