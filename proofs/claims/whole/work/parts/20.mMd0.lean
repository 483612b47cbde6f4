def stX6_beginReading_2 (a2 : Int32 × Mem) : Option ((Int32 × Mem) ⊕ (Mem)) := (if (208 : Int32) ≤ a2.1 then (some (.inr a2.2)) else (gd (inb ((208 : Int32) + a2.1) 2496) (some (.inl (a2.1 + (1 : Int32), wI a2.2 61 0 ((208 : Int32) + a2.1).toNatClampNeg (0 : Int32))))))
def stX6_beginReading_58 (a58 : Int32 × Mem) : Option ((Int32 × Mem) ⊕ (Mem)) := (if (8 : Int32) ≤ a58.1 then (some (.inr a58.2)) else (gd (inb a58.1 8) (some (.inl (a58.1 + (1 : Int32), wJ a58.2 13 0 a58.1.toNatClampNeg (0 : Int64))))))
def stX6_beginReading_82 (a82 : Int32 × Mem) : Option ((Int32 × Mem) ⊕ (Mem)) := (if (17 : Int32) ≤ a82.1 then (some (.inr a82.2)) else (gd (inb a82.1 17) (some (.inl (a82.1 + (1 : Int32), wJ a82.2 14 0 a82.1.toNatClampNeg (0 : Int64))))))
def fX6_beginReading (μ : Mem) : Option (Mem) := ((loop (stX6_beginReading_2) 5000 ((0 : Int32), μ)).bind fun b2 => ((loop (stX6_beginReading_58) 5000 ((0 : Int32), wI (wI (wI b2 61 0 (209 : Int32).toNatClampNeg (60 : Int32)) 61 0 (210 : Int32).toNatClampNeg (7 : Int32)) 61 0 (211 : Int32).toNatClampNeg (10 : Int32))).bind fun b58 => ((loop (stX6_beginReading_82) 5000 ((0 : Int32), b58)).bind fun b82 => (some b82))))
set_option maxHeartbeats 4000000 in
set_option maxRecDepth 100000 in
theorem okX6_beginReading (l : Launch) (cy : Nat → ClassId) (D : va_G) (B : Nat) (ek : EK) (σ μ ω : Mem) (res : Mem) (h : fX6_beginReading μ = some res) : CT l cy D B ek yX6_beginReading cX6_beginReading 2 none ({ frames := 0, cells := 0, slots := 0, locals := 0 } : Room) [.ref (B + oMd)] σ μ ω none σ res ω := by
  refine met_X (own := "HostelBedsModel") (by decide) rfl (Nat.le_of_ble_eq_true rfl) ?_
  intro p e s m args below meth c C hrT hlk
  have hret : ∀ (pc9 : Nat) (lcs9 : List (Nat × Value)), decode cX6_beginReading pc9 = .ok (.return_, 1) → X p l e ({ frames := 0, cells := 0, slots := 0, locals := 0 } : Room) s m args below meth c 2 cy D B 0 0 (MQ below (QR cy D B none σ res ω) args s 0 0 (aB B)) pc9 lcs9 [] σ res ω := fun _ _ hd => x_vret C hrT hlk hd
  generalize (MQ below (QR cy D B none σ res ω) args s 0 0 (aB B)) = Q at hret ⊢
  obtain ⟨R, hR9⟩ : ∃ R : Room, R = ({ frames := 0, cells := 0, slots := 0, locals := 0 } : Room) := ⟨_, rfl⟩
  rw [← hR9] at hret ⊢
  unfold fX6_beginReading at h
  show X p l e R s m args below meth c 2 cy D B 0 0 Q 0 [(0, .ref (B + oMd))] [] σ μ ω
  refine x_iconst C (v := 0) dX6_beginReading_0 (by decide) ?_
  refine x_istore_n C [(1, .int (0 : Int32)), (0, .ref (B + oMd))] dX6_beginReading_1 rfl (by decide) rfl ?_
  obtain ⟨b2, hk5, h⟩ := Option.bind_eq_some_iff.mp h
  refine x_sub [1, 0] rfl ?_
  refine loop_run (step := stX6_beginReading_2) (P := fun (a2 : Int32 × Mem) => X p l e R s m args below meth c 2 cy D B 0 0 Q 2 [(0, .ref (B + oMd)), (1, .int a2.1)] [] σ a2.2 ω) (K := fun (b2 : Mem) => X p l e R s m args below meth c 2 cy D B 0 0 Q 26 [(0, .ref (B + oMd))] [] σ b2 ω) ?_ 5000 ((0 : Int32), μ) b2 hk5 ?_
  · intro a2 r h hA1 hB2
    unfold stX6_beginReading_2 at h
    refine x_iload_n C dX6_beginReading_2 rfl 1 rfl ?_
    refine x_sipush C (v := 208) dX6_beginReading_3 (by decide) ?_
    refine x_icmp_ge C (tgt := 26) dX6_beginReading_6 (by decide) (fun hc3 => ?_) (fun hc3 => ?_)
    · rw [if_pos hc3] at h
      cases h
      refine x_sub [0] rfl ?_
      exact hB2 a2.2 rfl
    · rw [if_neg hc3] at h
      refine x_aload_n C dX6_beginReading_9 rfl 0 rfl ?_
      refine x_get C (C1 := "HostelBedsModel") (T := TX6) (N := 27) (ci := 6) inXg6 _ (c_Md) rfl 1 (by decide) (lw_g_mk tw_1132 rfl) rfl dX6_beginReading_10 ?_
      refine x_sipush C (v := 208) dX6_beginReading_13 (by decide) ?_
      refine x_iload_n C dX6_beginReading_16 rfl 1 rfl ?_
      refine x_iadd C dX6_beginReading_17 ?_
      refine x_iconst C (v := 0) dX6_beginReading_18 (by decide) ?_
      obtain ⟨hg4, h⟩ := gd_some h
      refine x_iast C _ (c_Rows) hg4 dX6_beginReading_19 (s_Rows) ?_
      refine x_iinc C (k := 1) [(1, .int (a2.1 + (1 : Int32))), (0, .ref (B + oMd))] dX6_beginReading_20 rfl rfl (by decide) rfl ?_
      refine x_goto C (tgt := 2) dX6_beginReading_23 (by decide) ?_
      cases h
      refine x_sub [1, 0] rfl ?_
      exact hA1 (a2.1 + (1 : Int32), wI a2.2 61 0 ((208 : Int32) + a2.1).toNatClampNeg (0 : Int32)) rfl
  · show X p l e R s m args below meth c 2 cy D B 0 0 Q 26 [(0, .ref (B + oMd))] [] σ b2 ω
    refine x_aload_n C dX6_beginReading_26 rfl 0 rfl ?_
    refine x_get C (C1 := "HostelBedsModel") (T := TX6) (N := 27) (ci := 6) inXg6 _ (c_Md) rfl 1 (by decide) (lw_g_mk tw_1132 rfl) rfl dX6_beginReading_27 ?_
    refine x_sipush C (v := 209) dX6_beginReading_30 (by decide) ?_
    refine x_bipush C (v := 60) dX6_beginReading_33 (by decide) ?_
    refine x_iast C _ (c_Rows) (by decide : inb (209 : Int32) 2496) dX6_beginReading_35 (s_Rows) ?_
    refine x_aload_n C dX6_beginReading_36 rfl 0 rfl ?_
    refine x_get C (C1 := "HostelBedsModel") (T := TX6) (N := 27) (ci := 6) inXg6 _ (c_Md) rfl 1 (by decide) (lw_g_mk tw_1132 rfl) rfl dX6_beginReading_37 ?_
    refine x_sipush C (v := 210) dX6_beginReading_40 (by decide) ?_
    refine x_bipush C (v := 7) dX6_beginReading_43 (by decide) ?_
    refine x_iast C _ (c_Rows) (by decide : inb (210 : Int32) 2496) dX6_beginReading_45 (s_Rows) ?_
    refine x_aload_n C dX6_beginReading_46 rfl 0 rfl ?_
    refine x_get C (C1 := "HostelBedsModel") (T := TX6) (N := 27) (ci := 6) inXg6 _ (c_Md) rfl 1 (by decide) (lw_g_mk tw_1132 rfl) rfl dX6_beginReading_47 ?_
    refine x_sipush C (v := 211) dX6_beginReading_50 (by decide) ?_
    refine x_bipush C (v := 10) dX6_beginReading_53 (by decide) ?_
    refine x_iast C _ (c_Rows) (by decide : inb (211 : Int32) 2496) dX6_beginReading_55 (s_Rows) ?_
    refine x_iconst C (v := 0) dX6_beginReading_56 (by decide) ?_
    refine x_istore_n C [(1, .int (0 : Int32)), (0, .ref (B + oMd))] dX6_beginReading_57 rfl (by decide) rfl ?_
    obtain ⟨b58, hk10, h⟩ := Option.bind_eq_some_iff.mp h
    refine x_sub [1, 0] rfl ?_
    refine loop_run (step := stX6_beginReading_58) (P := fun (a58 : Int32 × Mem) => X p l e R s m args below meth c 2 cy D B 0 0 Q 58 [(0, .ref (B + oMd)), (1, .int a58.1)] [] σ a58.2 ω) (K := fun (b58 : Mem) => X p l e R s m args below meth c 2 cy D B 0 0 Q 80 [(0, .ref (B + oMd))] [] σ b58 ω) ?_ 5000 ((0 : Int32), wI (wI (wI b2 61 0 (209 : Int32).toNatClampNeg (60 : Int32)) 61 0 (210 : Int32).toNatClampNeg (7 : Int32)) 61 0 (211 : Int32).toNatClampNeg (10 : Int32)) b58 hk10 ?_
    · intro a58 r h hA6 hB7
      unfold stX6_beginReading_58 at h
      refine x_iload_n C dX6_beginReading_58 rfl 1 rfl ?_
      refine x_aload_n C dX6_beginReading_59 rfl 0 rfl ?_
      refine x_get C (C1 := "HostelBedsModel") (T := TX6) (N := 27) (ci := 6) inXg6 _ (c_Md) rfl 7 (by decide) (lw_g_mk tw_1138 rfl) rfl dX6_beginReading_60 ?_
      refine x_alen C _ 1 (c_RR) rfl (v := 8) rfl dX6_beginReading_63 ?_
      refine x_icmp_ge C (tgt := 80) dX6_beginReading_64 (by decide) (fun hc8 => ?_) (fun hc8 => ?_)
      · rw [if_pos hc8] at h
        cases h
        refine x_sub [0] rfl ?_
        exact hB7 a58.2 rfl
      · rw [if_neg hc8] at h
        refine x_aload_n C dX6_beginReading_67 rfl 0 rfl ?_
        refine x_get C (C1 := "HostelBedsModel") (T := TX6) (N := 27) (ci := 6) inXg6 _ (c_Md) rfl 7 (by decide) (lw_g_mk tw_1138 rfl) rfl dX6_beginReading_68 ?_
        refine x_iload_n C dX6_beginReading_71 rfl 1 rfl ?_
        refine x_lconst C (v := 0) dX6_beginReading_72 (by decide) ?_
        obtain ⟨hg9, h⟩ := gd_some h
        refine x_last C _ (c_RR) hg9 dX6_beginReading_73 (s_RR) ?_
        refine x_iinc C (k := 1) [(1, .int (a58.1 + (1 : Int32))), (0, .ref (B + oMd))] dX6_beginReading_74 rfl rfl (by decide) rfl ?_
        refine x_goto C (tgt := 58) dX6_beginReading_77 (by decide) ?_
        cases h
        refine x_sub [1, 0] rfl ?_
        exact hA6 (a58.1 + (1 : Int32), wJ a58.2 13 0 a58.1.toNatClampNeg (0 : Int64)) rfl
    · show X p l e R s m args below meth c 2 cy D B 0 0 Q 80 [(0, .ref (B + oMd))] [] σ b58 ω
      refine x_iconst C (v := 0) dX6_beginReading_80 (by decide) ?_
      refine x_istore_n C [(1, .int (0 : Int32)), (0, .ref (B + oMd))] dX6_beginReading_81 rfl (by decide) rfl ?_
      obtain ⟨b82, hk15, h⟩ := Option.bind_eq_some_iff.mp h
      refine x_sub [1, 0] rfl ?_
      refine loop_run (step := stX6_beginReading_82) (P := fun (a82 : Int32 × Mem) => X p l e R s m args below meth c 2 cy D B 0 0 Q 82 [(0, .ref (B + oMd)), (1, .int a82.1)] [] σ a82.2 ω) (K := fun (b82 : Mem) => X p l e R s m args below meth c 2 cy D B 0 0 Q 104 [] [] σ b82 ω) ?_ 5000 ((0 : Int32), b58) b82 hk15 ?_
      · intro a82 r h hA11 hB12
        unfold stX6_beginReading_82 at h
        refine x_iload_n C dX6_beginReading_82 rfl 1 rfl ?_
        refine x_aload_n C dX6_beginReading_83 rfl 0 rfl ?_
        refine x_get C (C1 := "HostelBedsModel") (T := TX6) (N := 27) (ci := 6) inXg6 _ (c_Md) rfl 8 (by decide) (lw_g_mk tw_1139 rfl) rfl dX6_beginReading_84 ?_
        refine x_alen C _ 1 (c_RB) rfl (v := 17) rfl dX6_beginReading_87 ?_
        refine x_icmp_ge C (tgt := 104) dX6_beginReading_88 (by decide) (fun hc13 => ?_) (fun hc13 => ?_)
        · rw [if_pos hc13] at h
          cases h
          refine x_sub [] rfl ?_
          exact hB12 a82.2 rfl
        · rw [if_neg hc13] at h
          refine x_aload_n C dX6_beginReading_91 rfl 0 rfl ?_
          refine x_get C (C1 := "HostelBedsModel") (T := TX6) (N := 27) (ci := 6) inXg6 _ (c_Md) rfl 8 (by decide) (lw_g_mk tw_1139 rfl) rfl dX6_beginReading_92 ?_
          refine x_iload_n C dX6_beginReading_95 rfl 1 rfl ?_
          refine x_lconst C (v := 0) dX6_beginReading_96 (by decide) ?_
          obtain ⟨hg14, h⟩ := gd_some h
          refine x_last C _ (c_RB) hg14 dX6_beginReading_97 (s_RB) ?_
          refine x_iinc C (k := 1) [(1, .int (a82.1 + (1 : Int32))), (0, .ref (B + oMd))] dX6_beginReading_98 rfl rfl (by decide) rfl ?_
          refine x_goto C (tgt := 82) dX6_beginReading_101 (by decide) ?_
          cases h
          refine x_sub [1, 0] rfl ?_
          exact hA11 (a82.1 + (1 : Int32), wJ a82.2 14 0 a82.1.toNatClampNeg (0 : Int64)) rfl
      · show X p l e R s m args below meth c 2 cy D B 0 0 Q 104 [] [] σ b82 ω
        cases h
        exact hret _ _ dX6_beginReading_104
def stX6_copyRow_2 (p1 : Int32) (p2 : Int32) (a2 : Int32 × Mem) : Option ((Int32 × Mem) ⊕ (Mem)) := (if (208 : Int32) ≤ a2.1 then (some (.inr a2.2)) else (gd (inb (((208 : Int32) * p1) + a2.1) 2496) (gd (inb (((208 : Int32) * p2) + a2.1) 2496) (some (.inl (a2.1 + (1 : Int32), wI a2.2 61 0 (((208 : Int32) * p2) + a2.1).toNatClampNeg (rI a2.2 61 0 (((208 : Int32) * p1) + a2.1).toNatClampNeg)))))))
def fX6_copyRow (p1 : Int32) (p2 : Int32) (μ : Mem) : Option (Mem) := ((loop (stX6_copyRow_2 p1 p2) 5000 ((0 : Int32), μ)).bind fun b2 => (some b2))
set_option maxHeartbeats 4000000 in
set_option maxRecDepth 100000 in
theorem okX6_copyRow (l : Launch) (cy : Nat → ClassId) (D : va_G) (B : Nat) (ek : EK) (p1 : Int32) (p2 : Int32) (σ μ ω : Mem) (res : Mem) (h : fX6_copyRow p1 p2 μ = some res) : CT l cy D B ek yX6_copyRow cX6_copyRow 4 none ({ frames := 0, cells := 0, slots := 0, locals := 0 } : Room) [.ref (B + oMd), .int p1, .int p2] σ μ ω none σ res ω := by
  refine met_X (own := "HostelBedsModel") (by decide) rfl (Nat.le_of_ble_eq_true rfl) ?_
  intro p e s m args below meth c C hrT hlk
  have hret : ∀ (pc9 : Nat) (lcs9 : List (Nat × Value)), decode cX6_copyRow pc9 = .ok (.return_, 1) → X p l e ({ frames := 0, cells := 0, slots := 0, locals := 0 } : Room) s m args below meth c 4 cy D B 0 0 (MQ below (QR cy D B none σ res ω) args s 0 0 (aB B)) pc9 lcs9 [] σ res ω := fun _ _ hd => x_vret C hrT hlk hd
  generalize (MQ below (QR cy D B none σ res ω) args s 0 0 (aB B)) = Q at hret ⊢
  obtain ⟨R, hR9⟩ : ∃ R : Room, R = ({ frames := 0, cells := 0, slots := 0, locals := 0 } : Room) := ⟨_, rfl⟩
  rw [← hR9] at hret ⊢
  unfold fX6_copyRow at h
  show X p l e R s m args below meth c 4 cy D B 0 0 Q 0 [(0, .ref (B + oMd)), (1, .int p1), (2, .int p2)] [] σ μ ω
  refine x_iconst C (v := 0) dX6_copyRow_0 (by decide) ?_
  refine x_istore_n C [(3, .int (0 : Int32)), (0, .ref (B + oMd)), (1, .int p1), (2, .int p2)] dX6_copyRow_1 rfl (by decide) rfl ?_
  obtain ⟨b2, hk6, h⟩ := Option.bind_eq_some_iff.mp h
  refine x_sub [1, 2, 3, 0] rfl ?_
  refine loop_run (step := stX6_copyRow_2 p1 p2) (P := fun (a2 : Int32 × Mem) => X p l e R s m args below meth c 4 cy D B 0 0 Q 2 [(0, .ref (B + oMd)), (1, .int p1), (2, .int p2), (3, .int a2.1)] [] σ a2.2 ω) (K := fun (b2 : Mem) => X p l e R s m args below meth c 4 cy D B 0 0 Q 39 [] [] σ b2 ω) ?_ 5000 ((0 : Int32), μ) b2 hk6 ?_
  · intro a2 r h hA1 hB2
    unfold stX6_copyRow_2 at h
    refine x_iload_n C dX6_copyRow_2 rfl 3 rfl ?_
    refine x_sipush C (v := 208) dX6_copyRow_3 (by decide) ?_
    refine x_icmp_ge C (tgt := 39) dX6_copyRow_6 (by decide) (fun hc3 => ?_) (fun hc3 => ?_)
    · rw [if_pos hc3] at h
      cases h
      refine x_sub [] rfl ?_
      exact hB2 a2.2 rfl
    · rw [if_neg hc3] at h
      refine x_aload_n C dX6_copyRow_9 rfl 0 rfl ?_
      refine x_get C (C1 := "HostelBedsModel") (T := TX6) (N := 27) (ci := 6) inXg6 _ (c_Md) rfl 1 (by decide) (lw_g_mk tw_1132 rfl) rfl dX6_copyRow_10 ?_
      refine x_sipush C (v := 208) dX6_copyRow_13 (by decide) ?_
      refine x_iload_n C dX6_copyRow_16 rfl 2 rfl ?_
      refine x_imul C dX6_copyRow_17 ?_
      refine x_iload_n C dX6_copyRow_18 rfl 3 rfl ?_
      refine x_iadd C dX6_copyRow_19 ?_
      refine x_aload_n C dX6_copyRow_20 rfl 0 rfl ?_
      refine x_get C (C1 := "HostelBedsModel") (T := TX6) (N := 27) (ci := 6) inXg6 _ (c_Md) rfl 1 (by decide) (lw_g_mk tw_1132 rfl) rfl dX6_copyRow_21 ?_
      refine x_sipush C (v := 208) dX6_copyRow_24 (by decide) ?_
      refine x_iload_n C dX6_copyRow_27 rfl 1 rfl ?_
      refine x_imul C dX6_copyRow_28 ?_
      refine x_iload_n C dX6_copyRow_29 rfl 3 rfl ?_
      refine x_iadd C dX6_copyRow_30 ?_
      obtain ⟨hg4, h⟩ := gd_some h
      refine x_iald C _ (c_Rows) hg4 dX6_copyRow_31 ?_
      obtain ⟨hg5, h⟩ := gd_some h
      refine x_iast C _ (c_Rows) hg5 dX6_copyRow_32 (s_Rows) ?_
      refine x_iinc C (k := 3) [(3, .int (a2.1 + (1 : Int32))), (0, .ref (B + oMd)), (1, .int p1), (2, .int p2)] dX6_copyRow_33 rfl rfl (by decide) rfl ?_
      refine x_goto C (tgt := 2) dX6_copyRow_36 (by decide) ?_
      cases h
      refine x_sub [1, 2, 3, 0] rfl ?_
      exact hA1 (a2.1 + (1 : Int32), wI a2.2 61 0 (((208 : Int32) * p2) + a2.1).toNatClampNeg (rI a2.2 61 0 (((208 : Int32) * p1) + a2.1).toNatClampNeg)) rfl
  · show X p l e R s m args below meth c 4 cy D B 0 0 Q 39 [] [] σ b2 ω
    cases h
    exact hret _ _ dX6_copyRow_39
def stX6_keepReading_8 (a8 : Int32 × Mem) : Option ((Int32 × Mem) ⊕ (Mem)) := (if (8 : Int32) ≤ a8.1 then (some (.inr a8.2)) else (gd (inb a8.1 8) (some (.inl (a8.1 + (1 : Int32), wJ a8.2 11 0 a8.1.toNatClampNeg (rJ a8.2 13 0 a8.1.toNatClampNeg))))))
def stX6_keepReading_37 (a37 : Int32 × Mem) : Option ((Int32 × Mem) ⊕ (Mem)) := (if (17 : Int32) ≤ a37.1 then (some (.inr a37.2)) else (gd (inb a37.1 17) (some (.inl (a37.1 + (1 : Int32), wJ a37.2 12 0 a37.1.toNatClampNeg (rJ a37.2 14 0 a37.1.toNatClampNeg))))))
def fX6_keepReading (μ : Mem) : Option (Mem) := ((fX6_copyRow (1 : Int32) (0 : Int32) μ).bind fun q1 => ((loop (stX6_keepReading_8) 5000 ((0 : Int32), q1)).bind fun b8 => ((loop (stX6_keepReading_37) 5000 ((0 : Int32), b8)).bind fun b37 => (some (wI (wI b37 63 0 0 (0 : Int32)) 64 0 0 (0 : Int32))))))
set_option maxHeartbeats 4000000 in
set_option maxRecDepth 100000 in
theorem okX6_keepReading (l : Launch) (cy : Nat → ClassId) (D : va_G) (B : Nat) (ek : EK) (σ μ ω : Mem) (res : Mem) (h : fX6_keepReading μ = some res) : CT l cy D B ek yX6_keepReading cX6_keepReading 2 none ({ frames := 1, cells := 0, slots := 0, locals := 23 } : Room) [.ref (B + oMd)] σ μ ω none σ res ω := by
  refine met_X (own := "HostelBedsModel") (by decide) rfl (Nat.le_of_ble_eq_true rfl) ?_
  intro p e s m args below meth c C hrT hlk
  have hret : ∀ (pc9 : Nat) (lcs9 : List (Nat × Value)), decode cX6_keepReading pc9 = .ok (.return_, 1) → X p l e ({ frames := 1, cells := 0, slots := 0, locals := 23 } : Room) s m args below meth c 2 cy D B 0 0 (MQ below (QR cy D B none σ res ω) args s 0 0 (aB B)) pc9 lcs9 [] σ res ω := fun _ _ hd => x_vret C hrT hlk hd
  generalize (MQ below (QR cy D B none σ res ω) args s 0 0 (aB B)) = Q at hret ⊢
  obtain ⟨R, hR9⟩ : ∃ R : Room, R = ({ frames := 1, cells := 0, slots := 0, locals := 23 } : Room) := ⟨_, rfl⟩
  rw [← hR9] at hret ⊢
  unfold fX6_keepReading at h
  show X p l e R s m args below meth c 2 cy D B 0 0 Q 0 [(0, .ref (B + oMd))] [] σ μ ω
  refine x_aload_n C dX6_keepReading_0 rfl 0 rfl ?_
  refine x_iconst C (v := 1) dX6_keepReading_1 (by decide) ?_
  refine x_iconst C (v := 0) dX6_keepReading_2 (by decide) ?_
  obtain ⟨q1, hk1, h⟩ := Option.bind_eq_some_iff.mp h
  refine x_callV C (As := [.int (1 : Int32), .int (0 : Int32)]) (rest := []) (lw_g_mk tw_1129 rfl) (lw_g_mk tsel_17 rfl) (c_Md) (C1 := "HostelBedsModel") (T := TX6) (N := 27) (ci := 6) rfl (okX6_copyRow l cy D B ek (1 : Int32) (0 : Int32) σ μ ω _ hk1) rfl rfl (by rw [hR9]; decide) (lw_g_mk tw_1130 rfl) (lw_g_mk tw_7 rfl) (by decide) rfl (lw_g_mk tw_1127 rfl) rfl (Nat.le_of_ble_eq_true rfl) dX6_keepReading_3 (by rw [hR9]; decide) ?_
  refine x_iconst C (v := 0) dX6_keepReading_6 (by decide) ?_
  refine x_istore_n C [(1, .int (0 : Int32)), (0, .ref (B + oMd))] dX6_keepReading_7 rfl (by decide) rfl ?_
  obtain ⟨b8, hk6, h⟩ := Option.bind_eq_some_iff.mp h
  refine x_sub [1, 0] rfl ?_
  refine loop_run (step := stX6_keepReading_8) (P := fun (a8 : Int32 × Mem) => X p l e R s m args below meth c 2 cy D B 0 0 Q 8 [(0, .ref (B + oMd)), (1, .int a8.1)] [] σ a8.2 ω) (K := fun (b8 : Mem) => X p l e R s m args below meth c 2 cy D B 0 0 Q 35 [(0, .ref (B + oMd))] [] σ b8 ω) ?_ 5000 ((0 : Int32), q1) b8 hk6 ?_
  · intro a8 r h hA2 hB3
    unfold stX6_keepReading_8 at h
    refine x_iload_n C dX6_keepReading_8 rfl 1 rfl ?_
    refine x_aload_n C dX6_keepReading_9 rfl 0 rfl ?_
    refine x_get C (C1 := "HostelBedsModel") (T := TX6) (N := 27) (ci := 6) inXg6 _ (c_Md) rfl 7 (by decide) (lw_g_mk tw_1138 rfl) rfl dX6_keepReading_10 ?_
    refine x_alen C _ 1 (c_RR) rfl (v := 8) rfl dX6_keepReading_13 ?_
    refine x_icmp_ge C (tgt := 35) dX6_keepReading_14 (by decide) (fun hc4 => ?_) (fun hc4 => ?_)
    · rw [if_pos hc4] at h
      cases h
      refine x_sub [0] rfl ?_
      exact hB3 a8.2 rfl
    · rw [if_neg hc4] at h
      refine x_aload_n C dX6_keepReading_17 rfl 0 rfl ?_
      refine x_get C (C1 := "HostelBedsModel") (T := TX6) (N := 27) (ci := 6) inXg6 _ (c_Md) rfl 5 (by decide) (lw_g_mk tw_1136 rfl) rfl dX6_keepReading_18 ?_
      refine x_iload_n C dX6_keepReading_21 rfl 1 rfl ?_
      refine x_aload_n C dX6_keepReading_22 rfl 0 rfl ?_
      refine x_get C (C1 := "HostelBedsModel") (T := TX6) (N := 27) (ci := 6) inXg6 _ (c_Md) rfl 7 (by decide) (lw_g_mk tw_1138 rfl) rfl dX6_keepReading_23 ?_
      refine x_iload_n C dX6_keepReading_26 rfl 1 rfl ?_
      obtain ⟨hg5, h⟩ := gd_some h
      refine x_lald C _ (c_RR) hg5 dX6_keepReading_27 ?_
      refine x_last C _ (c_RN) hg5 dX6_keepReading_28 (s_RN) ?_
      refine x_iinc C (k := 1) [(1, .int (a8.1 + (1 : Int32))), (0, .ref (B + oMd))] dX6_keepReading_29 rfl rfl (by decide) rfl ?_
      refine x_goto C (tgt := 8) dX6_keepReading_32 (by decide) ?_
      cases h
      refine x_sub [1, 0] rfl ?_
      exact hA2 (a8.1 + (1 : Int32), wJ a8.2 11 0 a8.1.toNatClampNeg (rJ a8.2 13 0 a8.1.toNatClampNeg)) rfl
  · show X p l e R s m args below meth c 2 cy D B 0 0 Q 35 [(0, .ref (B + oMd))] [] σ b8 ω
    refine x_iconst C (v := 0) dX6_keepReading_35 (by decide) ?_
    refine x_istore_n C [(1, .int (0 : Int32)), (0, .ref (B + oMd))] dX6_keepReading_36 rfl (by decide) rfl ?_
    obtain ⟨b37, hk11, h⟩ := Option.bind_eq_some_iff.mp h
    refine x_sub [1, 0] rfl ?_
    refine loop_run (step := stX6_keepReading_37) (P := fun (a37 : Int32 × Mem) => X p l e R s m args below meth c 2 cy D B 0 0 Q 37 [(0, .ref (B + oMd)), (1, .int a37.1)] [] σ a37.2 ω) (K := fun (b37 : Mem) => X p l e R s m args below meth c 2 cy D B 0 0 Q 64 [(0, .ref (B + oMd))] [] σ b37 ω) ?_ 5000 ((0 : Int32), b8) b37 hk11 ?_
    · intro a37 r h hA7 hB8
      unfold stX6_keepReading_37 at h
      refine x_iload_n C dX6_keepReading_37 rfl 1 rfl ?_
      refine x_aload_n C dX6_keepReading_38 rfl 0 rfl ?_
      refine x_get C (C1 := "HostelBedsModel") (T := TX6) (N := 27) (ci := 6) inXg6 _ (c_Md) rfl 8 (by decide) (lw_g_mk tw_1139 rfl) rfl dX6_keepReading_39 ?_
      refine x_alen C _ 1 (c_RB) rfl (v := 17) rfl dX6_keepReading_42 ?_
      refine x_icmp_ge C (tgt := 64) dX6_keepReading_43 (by decide) (fun hc9 => ?_) (fun hc9 => ?_)
      · rw [if_pos hc9] at h
        cases h
        refine x_sub [0] rfl ?_
        exact hB8 a37.2 rfl
      · rw [if_neg hc9] at h
        refine x_aload_n C dX6_keepReading_46 rfl 0 rfl ?_
        refine x_get C (C1 := "HostelBedsModel") (T := TX6) (N := 27) (ci := 6) inXg6 _ (c_Md) rfl 6 (by decide) (lw_g_mk tw_1137 rfl) rfl dX6_keepReading_47 ?_
        refine x_iload_n C dX6_keepReading_50 rfl 1 rfl ?_
        refine x_aload_n C dX6_keepReading_51 rfl 0 rfl ?_
        refine x_get C (C1 := "HostelBedsModel") (T := TX6) (N := 27) (ci := 6) inXg6 _ (c_Md) rfl 8 (by decide) (lw_g_mk tw_1139 rfl) rfl dX6_keepReading_52 ?_
        refine x_iload_n C dX6_keepReading_55 rfl 1 rfl ?_
        obtain ⟨hg10, h⟩ := gd_some h
        refine x_lald C _ (c_RB) hg10 dX6_keepReading_56 ?_
        refine x_last C _ (c_BN) hg10 dX6_keepReading_57 (s_BN) ?_
        refine x_iinc C (k := 1) [(1, .int (a37.1 + (1 : Int32))), (0, .ref (B + oMd))] dX6_keepReading_58 rfl rfl (by decide) rfl ?_
        refine x_goto C (tgt := 37) dX6_keepReading_61 (by decide) ?_
        cases h
        refine x_sub [1, 0] rfl ?_
        exact hA7 (a37.1 + (1 : Int32), wJ a37.2 12 0 a37.1.toNatClampNeg (rJ a37.2 14 0 a37.1.toNatClampNeg)) rfl
    · show X p l e R s m args below meth c 2 cy D B 0 0 Q 64 [(0, .ref (B + oMd))] [] σ b37 ω
      refine x_aload_n C dX6_keepReading_64 rfl 0 rfl ?_
      refine x_iconst C (v := 0) dX6_keepReading_65 (by decide) ?_
      refine x_put C (C1 := "HostelBedsModel") (T := TX6) (N := 27) (ci := 6) inXg6 tyX6 tyX6_ok nmX6 _ (c_Md) rfl 3 (by decide) (lw_g_mk tw_1134 rfl) rfl rfl rfl rfl (Nat.le_of_ble_eq_true rfl) dX6_keepReading_66 (s_Md_edits) ?_
      refine x_aload_n C dX6_keepReading_69 rfl 0 rfl ?_
      refine x_iconst C (v := 0) dX6_keepReading_70 (by decide) ?_
      refine x_put C (C1 := "HostelBedsModel") (T := TX6) (N := 27) (ci := 6) inXg6 tyX6 tyX6_ok nmX6 _ (c_Md) rfl 4 (by decide) (lw_g_mk tw_1135 rfl) rfl rfl rfl rfl (Nat.le_of_ble_eq_true rfl) dX6_keepReading_71 (s_Md_firstEdit) ?_
      cases h
      exact hret _ _ dX6_keepReading_74
def fX6_thrown (μ : Mem) : Option (Int32) := (some (rI μ 60 0 0))
set_option maxHeartbeats 4000000 in
set_option maxRecDepth 100000 in
theorem okX6_thrown (l : Launch) (cy : Nat → ClassId) (D : va_G) (B : Nat) (ek : EK) (σ μ ω : Mem) (res : Int32) (h : fX6_thrown μ = some res) : CT l cy D B ek yX6_thrown cX6_thrown 1 (some .int) ({ frames := 0, cells := 0, slots := 0, locals := 0 } : Room) [.ref (B + oMd)] σ μ ω (some (.int res)) σ μ ω := by
  refine met_X (own := "HostelBedsModel") (by decide) rfl (Nat.le_of_ble_eq_true rfl) ?_
  intro p e s m args below meth c C hrT hlk
  have hret : ∀ (pc9 : Nat) (lcs9 : List (Nat × Value)), decode cX6_thrown pc9 = .ok (.ireturn, 1) → narrow .int (.int res) = .int res → X p l e ({ frames := 0, cells := 0, slots := 0, locals := 0 } : Room) s m args below meth c 1 cy D B 0 0 (MQ below (QR cy D B (some (.int res)) σ μ ω) args s 0 0 (aB B)) pc9 lcs9 [.int res] σ μ ω := fun _ _ hd hn => x_zret C hrT hlk hn hd
  generalize (MQ below (QR cy D B (some (.int res)) σ μ ω) args s 0 0 (aB B)) = Q at hret ⊢
  obtain ⟨R, hR9⟩ : ∃ R : Room, R = ({ frames := 0, cells := 0, slots := 0, locals := 0 } : Room) := ⟨_, rfl⟩
  rw [← hR9] at hret ⊢
  unfold fX6_thrown at h
  show X p l e R s m args below meth c 1 cy D B 0 0 Q 0 [(0, .ref (B + oMd))] [] σ μ ω
  refine x_aload_n C dX6_thrown_0 rfl 0 rfl ?_
  refine x_get C (C1 := "HostelBedsModel") (T := TX6) (N := 27) (ci := 6) inXg6 _ (c_Md) rfl 0 (by decide) (lw_g_mk tw_1131 rfl) rfl dX6_thrown_1 ?_
  cases h
  exact hret _ _ dX6_thrown_4 rfl
def fX6_fails (p1 : Int32) (μ : Mem) : Option (Int32 × Mem) := (some ((0 : Int32), wI μ 60 0 0 p1))
set_option maxHeartbeats 4000000 in
set_option maxRecDepth 100000 in
theorem okX6_fails (l : Launch) (cy : Nat → ClassId) (D : va_G) (B : Nat) (ek : EK) (p1 : Int32) (σ μ ω : Mem) (res : Int32 × Mem) (h : fX6_fails p1 μ = some res) : CT l cy D B ek yX6_fails cX6_fails 2 (some .int) ({ frames := 0, cells := 0, slots := 0, locals := 0 } : Room) [.ref (B + oMd), .int p1] σ μ ω (some (.int res.1)) σ res.2 ω := by
  refine met_X (own := "HostelBedsModel") (by decide) rfl (Nat.le_of_ble_eq_true rfl) ?_
  intro p e s m args below meth c C hrT hlk
  have hret : ∀ (pc9 : Nat) (lcs9 : List (Nat × Value)), decode cX6_fails pc9 = .ok (.ireturn, 1) → narrow .int (.int res.1) = .int res.1 → X p l e ({ frames := 0, cells := 0, slots := 0, locals := 0 } : Room) s m args below meth c 2 cy D B 0 0 (MQ below (QR cy D B (some (.int res.1)) σ res.2 ω) args s 0 0 (aB B)) pc9 lcs9 [.int res.1] σ res.2 ω := fun _ _ hd hn => x_zret C hrT hlk hn hd
  generalize (MQ below (QR cy D B (some (.int res.1)) σ res.2 ω) args s 0 0 (aB B)) = Q at hret ⊢
  obtain ⟨R, hR9⟩ : ∃ R : Room, R = ({ frames := 0, cells := 0, slots := 0, locals := 0 } : Room) := ⟨_, rfl⟩
  rw [← hR9] at hret ⊢
  unfold fX6_fails at h
  show X p l e R s m args below meth c 2 cy D B 0 0 Q 0 [(0, .ref (B + oMd)), (1, .int p1)] [] σ μ ω
  refine x_aload_n C dX6_fails_0 rfl 0 rfl ?_
  refine x_iload_n C dX6_fails_1 rfl 1 rfl ?_
  refine x_put C (C1 := "HostelBedsModel") (T := TX6) (N := 27) (ci := 6) inXg6 tyX6 tyX6_ok nmX6 _ (c_Md) rfl 0 (by decide) (lw_g_mk tw_1131 rfl) rfl rfl rfl rfl (Nat.le_of_ble_eq_true rfl) dX6_fails_2 (s_Md_thrown) ?_
  refine x_iconst C (v := 0) dX6_fails_5 (by decide) ?_
  cases h
  exact hret _ _ dX6_fails_6 rfl
def jX6_isIn_14 : Option (Int32) := (some ((0 : Int32)))
def fX6_isIn (p1 : Int32) (p2 : Int32) (p3 : Int32) : Option (Int32) := (if p1 < p2 then (jX6_isIn_14) else (if p3 < p1 then (jX6_isIn_14) else (some ((1 : Int32)))))
set_option maxHeartbeats 4000000 in
set_option maxRecDepth 100000 in
theorem okX6_isIn (l : Launch) (cy : Nat → ClassId) (D : va_G) (B : Nat) (ek : EK) (p1 : Int32) (p2 : Int32) (p3 : Int32) (σ μ ω : Mem) (res : Int32) (h : fX6_isIn p1 p2 p3 = some res) : CT l cy D B ek yX6_isIn cX6_isIn 3 (some .boolean) ({ frames := 0, cells := 0, slots := 0, locals := 0 } : Room) [.int p1, .int p2, .int p3] σ μ ω (some (.int res)) σ μ ω := by
  refine met_X (own := "HostelBedsModel") (by decide) rfl (Nat.le_of_ble_eq_true rfl) ?_
  intro p e s m args below meth c C hrT hlk
  have hret : ∀ (pc9 : Nat) (lcs9 : List (Nat × Value)), decode cX6_isIn pc9 = .ok (.ireturn, 1) → narrow .boolean (.int res) = .int res → X p l e ({ frames := 0, cells := 0, slots := 0, locals := 0 } : Room) s m args below meth c 3 cy D B 0 0 (MQ below (QR cy D B (some (.int res)) σ μ ω) args s 0 0 (aB B)) pc9 lcs9 [.int res] σ μ ω := fun _ _ hd hn => x_zret C hrT hlk hn hd
  generalize (MQ below (QR cy D B (some (.int res)) σ μ ω) args s 0 0 (aB B)) = Q at hret ⊢
  obtain ⟨R, hR9⟩ : ∃ R : Room, R = ({ frames := 0, cells := 0, slots := 0, locals := 0 } : Room) := ⟨_, rfl⟩
  rw [← hR9] at hret ⊢
  unfold fX6_isIn at h
  show X p l e R s m args below meth c 3 cy D B 0 0 Q 0 [(0, .int p1), (1, .int p2), (2, .int p3)] [] σ μ ω
  refine x_iload_n C dX6_isIn_0 rfl 0 rfl ?_
  refine x_iload_n C dX6_isIn_1 rfl 1 rfl ?_
  have hJ1 : ∀ (r9 : Int32), jX6_isIn_14 = some r9 → (∀ (pc9 : Nat) (lcs9 : List (Nat × Value)), decode cX6_isIn pc9 = .ok (.ireturn, 1) → narrow .boolean (.int r9) = .int r9 → X p l e R s m args below meth c 3 cy D B 0 0 Q pc9 lcs9 [.int r9] σ μ ω) → X p l e R s m args below meth c 3 cy D B 0 0 Q 14 [] [] σ μ ω := by
    intro res9 h hret
    unfold jX6_isIn_14 at h
    refine x_iconst C (v := 0) dX6_isIn_14 (by decide) ?_
    cases h
    exact hret _ _ dX6_isIn_15 (nar_Z (Or.inl rfl))
  refine x_icmp_lt C (tgt := 14) dX6_isIn_2 (by decide) (fun hc2 => ?_) (fun hc2 => ?_)
  · rw [if_pos hc2] at h
    refine x_sub [] rfl ?_
    exact hJ1 _ h hret
  · rw [if_neg hc2] at h
    refine x_iload_n C dX6_isIn_5 rfl 0 rfl ?_
    refine x_iload_n C dX6_isIn_6 rfl 2 rfl ?_
    refine x_icmp_gt C (tgt := 14) dX6_isIn_7 (by decide) (fun hc3 => ?_) (fun hc3 => ?_)
    · rw [if_pos hc3] at h
      refine x_sub [] rfl ?_
      exact hJ1 _ h hret
    · rw [if_neg hc3] at h
      refine x_iconst C (v := 1) dX6_isIn_10 (by decide) ?_
      refine x_goto C (tgt := 15) dX6_isIn_11 (by decide) ?_
      cases h
      exact hret _ _ dX6_isIn_15 (nar_Z (Or.inr rfl))
def fX6_get (p1 : Int32) (μ : Mem) : Option (Int32) := (gd (inb ((rI μ 62 0 0) + p1) 2496) (some (rI μ 61 0 ((rI μ 62 0 0) + p1).toNatClampNeg)))
set_option maxHeartbeats 4000000 in
set_option maxRecDepth 100000 in
theorem okX6_get (l : Launch) (cy : Nat → ClassId) (D : va_G) (B : Nat) (ek : EK) (p1 : Int32) (σ μ ω : Mem) (res : Int32) (h : fX6_get p1 μ = some res) : CT l cy D B ek yX6_get cX6_get 2 (some .int) ({ frames := 0, cells := 0, slots := 0, locals := 0 } : Room) [.ref (B + oMd), .int p1] σ μ ω (some (.int res)) σ μ ω := by
  refine met_X (own := "HostelBedsModel") (by decide) rfl (Nat.le_of_ble_eq_true rfl) ?_
  intro p e s m args below meth c C hrT hlk
  have hret : ∀ (pc9 : Nat) (lcs9 : List (Nat × Value)), decode cX6_get pc9 = .ok (.ireturn, 1) → narrow .int (.int res) = .int res → X p l e ({ frames := 0, cells := 0, slots := 0, locals := 0 } : Room) s m args below meth c 2 cy D B 0 0 (MQ below (QR cy D B (some (.int res)) σ μ ω) args s 0 0 (aB B)) pc9 lcs9 [.int res] σ μ ω := fun _ _ hd hn => x_zret C hrT hlk hn hd
  generalize (MQ below (QR cy D B (some (.int res)) σ μ ω) args s 0 0 (aB B)) = Q at hret ⊢
  obtain ⟨R, hR9⟩ : ∃ R : Room, R = ({ frames := 0, cells := 0, slots := 0, locals := 0 } : Room) := ⟨_, rfl⟩
  rw [← hR9] at hret ⊢
  unfold fX6_get at h
  show X p l e R s m args below meth c 2 cy D B 0 0 Q 0 [(0, .ref (B + oMd)), (1, .int p1)] [] σ μ ω
  refine x_aload_n C dX6_get_0 rfl 0 rfl ?_
  refine x_get C (C1 := "HostelBedsModel") (T := TX6) (N := 27) (ci := 6) inXg6 _ (c_Md) rfl 1 (by decide) (lw_g_mk tw_1132 rfl) rfl dX6_get_1 ?_
  refine x_aload_n C dX6_get_4 rfl 0 rfl ?_
  refine x_get C (C1 := "HostelBedsModel") (T := TX6) (N := 27) (ci := 6) inXg6 _ (c_Md) rfl 2 (by decide) (lw_g_mk tw_1133 rfl) rfl dX6_get_5 ?_
  refine x_iload_n C dX6_get_8 rfl 1 rfl ?_
  refine x_iadd C dX6_get_9 ?_
  obtain ⟨hg1, h⟩ := gd_some h
  refine x_iald C _ (c_Rows) hg1 dX6_get_10 ?_
  cases h
  exact hret _ _ dX6_get_11 rfl
def fX6_set (p1 : Int32) (p2 : Int32) (μ : Mem) : Option (Mem) := (gd (inb ((rI μ 62 0 0) + p1) 2496) (some (wI μ 61 0 ((rI μ 62 0 0) + p1).toNatClampNeg p2)))
set_option maxHeartbeats 4000000 in
set_option maxRecDepth 100000 in
theorem okX6_set (l : Launch) (cy : Nat → ClassId) (D : va_G) (B : Nat) (ek : EK) (p1 : Int32) (p2 : Int32) (σ μ ω : Mem) (res : Mem) (h : fX6_set p1 p2 μ = some res) : CT l cy D B ek yX6_set cX6_set 3 none ({ frames := 0, cells := 0, slots := 0, locals := 0 } : Room) [.ref (B + oMd), .int p1, .int p2] σ μ ω none σ res ω := by
  refine met_X (own := "HostelBedsModel") (by decide) rfl (Nat.le_of_ble_eq_true rfl) ?_
  intro p e s m args below meth c C hrT hlk
  have hret : ∀ (pc9 : Nat) (lcs9 : List (Nat × Value)), decode cX6_set pc9 = .ok (.return_, 1) → X p l e ({ frames := 0, cells := 0, slots := 0, locals := 0 } : Room) s m args below meth c 3 cy D B 0 0 (MQ below (QR cy D B none σ res ω) args s 0 0 (aB B)) pc9 lcs9 [] σ res ω := fun _ _ hd => x_vret C hrT hlk hd
  generalize (MQ below (QR cy D B none σ res ω) args s 0 0 (aB B)) = Q at hret ⊢
  obtain ⟨R, hR9⟩ : ∃ R : Room, R = ({ frames := 0, cells := 0, slots := 0, locals := 0 } : Room) := ⟨_, rfl⟩
  rw [← hR9] at hret ⊢
  unfold fX6_set at h
  show X p l e R s m args below meth c 3 cy D B 0 0 Q 0 [(0, .ref (B + oMd)), (1, .int p1), (2, .int p2)] [] σ μ ω
  refine x_aload_n C dX6_set_0 rfl 0 rfl ?_
  refine x_get C (C1 := "HostelBedsModel") (T := TX6) (N := 27) (ci := 6) inXg6 _ (c_Md) rfl 1 (by decide) (lw_g_mk tw_1132 rfl) rfl dX6_set_1 ?_
  refine x_aload_n C dX6_set_4 rfl 0 rfl ?_
  refine x_get C (C1 := "HostelBedsModel") (T := TX6) (N := 27) (ci := 6) inXg6 _ (c_Md) rfl 2 (by decide) (lw_g_mk tw_1133 rfl) rfl dX6_set_5 ?_
  refine x_iload_n C dX6_set_8 rfl 1 rfl ?_
  refine x_iadd C dX6_set_9 ?_
  refine x_iload_n C dX6_set_10 rfl 2 rfl ?_
  obtain ⟨hg1, h⟩ := gd_some h
  refine x_iast C _ (c_Rows) hg1 dX6_set_11 (s_Rows) ?_
  cases h
  exact hret _ _ dX6_set_12
def fX6_roomIs (p1 : Int32) (p2 : Int32) (μ : Mem) : Option (Int32) := ((fX6_get (((5 : Int32) + ((4 : Int32) * p1)) + p2) μ).bind fun q1 => (some q1))
set_option maxHeartbeats 4000000 in
set_option maxRecDepth 100000 in
theorem okX6_roomIs (l : Launch) (cy : Nat → ClassId) (D : va_G) (B : Nat) (ek : EK) (p1 : Int32) (p2 : Int32) (σ μ ω : Mem) (res : Int32) (h : fX6_roomIs p1 p2 μ = some res) : CT l cy D B ek yX6_roomIs cX6_roomIs 3 (some .int) ({ frames := 1, cells := 0, slots := 0, locals := 21 } : Room) [.ref (B + oMd), .int p1, .int p2] σ μ ω (some (.int res)) σ μ ω := by
  refine met_X (own := "HostelBedsModel") (by decide) rfl (Nat.le_of_ble_eq_true rfl) ?_
  intro p e s m args below meth c C hrT hlk
  have hret : ∀ (pc9 : Nat) (lcs9 : List (Nat × Value)), decode cX6_roomIs pc9 = .ok (.ireturn, 1) → narrow .int (.int res) = .int res → X p l e ({ frames := 1, cells := 0, slots := 0, locals := 21 } : Room) s m args below meth c 3 cy D B 0 0 (MQ below (QR cy D B (some (.int res)) σ μ ω) args s 0 0 (aB B)) pc9 lcs9 [.int res] σ μ ω := fun _ _ hd hn => x_zret C hrT hlk hn hd
  generalize (MQ below (QR cy D B (some (.int res)) σ μ ω) args s 0 0 (aB B)) = Q at hret ⊢
  obtain ⟨R, hR9⟩ : ∃ R : Room, R = ({ frames := 1, cells := 0, slots := 0, locals := 21 } : Room) := ⟨_, rfl⟩
  rw [← hR9] at hret ⊢
  unfold fX6_roomIs at h
  show X p l e R s m args below meth c 3 cy D B 0 0 Q 0 [(0, .ref (B + oMd)), (1, .int p1), (2, .int p2)] [] σ μ ω
  refine x_aload_n C dX6_roomIs_0 rfl 0 rfl ?_
  refine x_iconst C (v := 5) dX6_roomIs_1 (by decide) ?_
  refine x_iconst C (v := 4) dX6_roomIs_2 (by decide) ?_
  refine x_iload_n C dX6_roomIs_3 rfl 1 rfl ?_
  refine x_imul C dX6_roomIs_4 ?_
  refine x_iadd C dX6_roomIs_5 ?_
  refine x_iload_n C dX6_roomIs_6 rfl 2 rfl ?_
  refine x_iadd C dX6_roomIs_7 ?_
  obtain ⟨q1, hk1, h⟩ := Option.bind_eq_some_iff.mp h
  refine x_callV C (As := [.int (((5 : Int32) + ((4 : Int32) * p1)) + p2)]) (rest := []) (lw_g_mk tw_1296 rfl) (lw_g_mk tsel_31 rfl) (c_Md) (C1 := "HostelBedsModel") (T := TX6) (N := 27) (ci := 6) rfl (okX6_get l cy D B ek (((5 : Int32) + ((4 : Int32) * p1)) + p2) σ μ ω _ hk1) rfl rfl (by rw [hR9]; decide) (lw_g_mk tw_1297 rfl) (lw_g_mk tw_7 rfl) (by decide) rfl (lw_g_mk tw_1294 rfl) rfl (Nat.le_of_ble_eq_true rfl) dX6_roomIs_8 (by rw [hR9]; decide) ?_
  cases h
  exact hret _ _ dX6_roomIs_11 rfl
def fX6_of (p1 : Int32) (p2 : Int32) (μ : Mem) : Option (Int32) := ((fX6_get (((38 : Int32) + ((9 : Int32) * p1)) + p2) μ).bind fun q1 => (some q1))
set_option maxHeartbeats 4000000 in
set_option maxRecDepth 100000 in
theorem okX6_of (l : Launch) (cy : Nat → ClassId) (D : va_G) (B : Nat) (ek : EK) (p1 : Int32) (p2 : Int32) (σ μ ω : Mem) (res : Int32) (h : fX6_of p1 p2 μ = some res) : CT l cy D B ek yX6_of cX6_of 3 (some .int) ({ frames := 1, cells := 0, slots := 0, locals := 21 } : Room) [.ref (B + oMd), .int p1, .int p2] σ μ ω (some (.int res)) σ μ ω := by
  refine met_X (own := "HostelBedsModel") (by decide) rfl (Nat.le_of_ble_eq_true rfl) ?_
  intro p e s m args below meth c C hrT hlk
  have hret : ∀ (pc9 : Nat) (lcs9 : List (Nat × Value)), decode cX6_of pc9 = .ok (.ireturn, 1) → narrow .int (.int res) = .int res → X p l e ({ frames := 1, cells := 0, slots := 0, locals := 21 } : Room) s m args below meth c 3 cy D B 0 0 (MQ below (QR cy D B (some (.int res)) σ μ ω) args s 0 0 (aB B)) pc9 lcs9 [.int res] σ μ ω := fun _ _ hd hn => x_zret C hrT hlk hn hd
  generalize (MQ below (QR cy D B (some (.int res)) σ μ ω) args s 0 0 (aB B)) = Q at hret ⊢
  obtain ⟨R, hR9⟩ : ∃ R : Room, R = ({ frames := 1, cells := 0, slots := 0, locals := 21 } : Room) := ⟨_, rfl⟩
  rw [← hR9] at hret ⊢
  unfold fX6_of at h
  show X p l e R s m args below meth c 3 cy D B 0 0 Q 0 [(0, .ref (B + oMd)), (1, .int p1), (2, .int p2)] [] σ μ ω
  refine x_aload_n C dX6_of_0 rfl 0 rfl ?_
  refine x_bipush C (v := 38) dX6_of_1 (by decide) ?_
  refine x_bipush C (v := 9) dX6_of_3 (by decide) ?_
  refine x_iload_n C dX6_of_5 rfl 1 rfl ?_
  refine x_imul C dX6_of_6 ?_
  refine x_iadd C dX6_of_7 ?_
  refine x_iload_n C dX6_of_8 rfl 2 rfl ?_
  refine x_iadd C dX6_of_9 ?_
  obtain ⟨q1, hk1, h⟩ := Option.bind_eq_some_iff.mp h
  refine x_callV C (As := [.int (((38 : Int32) + ((9 : Int32) * p1)) + p2)]) (rest := []) (lw_g_mk tw_1296 rfl) (lw_g_mk tsel_31 rfl) (c_Md) (C1 := "HostelBedsModel") (T := TX6) (N := 27) (ci := 6) rfl (okX6_get l cy D B ek (((38 : Int32) + ((9 : Int32) * p1)) + p2) σ μ ω _ hk1) rfl rfl (by rw [hR9]; decide) (lw_g_mk tw_1297 rfl) (lw_g_mk tw_7 rfl) (by decide) rfl (lw_g_mk tw_1294 rfl) rfl (Nat.le_of_ble_eq_true rfl) dX6_of_10 (by rw [hR9]; decide) ?_
  cases h
  exact hret _ _ dX6_of_13 rfl
def fX6_lay (p1 : Int32) (p2 : Int32) (p3 : Int32) (μ : Mem) : Option (Mem) := ((fX6_set (((38 : Int32) + ((9 : Int32) * p1)) + p2) p3 μ).bind fun q1 => (some q1))
set_option maxHeartbeats 4000000 in
set_option maxRecDepth 100000 in
theorem okX6_lay (l : Launch) (cy : Nat → ClassId) (D : va_G) (B : Nat) (ek : EK) (p1 : Int32) (p2 : Int32) (p3 : Int32) (σ μ ω : Mem) (res : Mem) (h : fX6_lay p1 p2 p3 μ = some res) : CT l cy D B ek yX6_lay cX6_lay 4 none ({ frames := 1, cells := 0, slots := 0, locals := 22 } : Room) [.ref (B + oMd), .int p1, .int p2, .int p3] σ μ ω none σ res ω := by
  refine met_X (own := "HostelBedsModel") (by decide) rfl (Nat.le_of_ble_eq_true rfl) ?_
  intro p e s m args below meth c C hrT hlk
  have hret : ∀ (pc9 : Nat) (lcs9 : List (Nat × Value)), decode cX6_lay pc9 = .ok (.return_, 1) → X p l e ({ frames := 1, cells := 0, slots := 0, locals := 22 } : Room) s m args below meth c 4 cy D B 0 0 (MQ below (QR cy D B none σ res ω) args s 0 0 (aB B)) pc9 lcs9 [] σ res ω := fun _ _ hd => x_vret C hrT hlk hd
  generalize (MQ below (QR cy D B none σ res ω) args s 0 0 (aB B)) = Q at hret ⊢
  obtain ⟨R, hR9⟩ : ∃ R : Room, R = ({ frames := 1, cells := 0, slots := 0, locals := 22 } : Room) := ⟨_, rfl⟩
  rw [← hR9] at hret ⊢
  unfold fX6_lay at h
  show X p l e R s m args below meth c 4 cy D B 0 0 Q 0 [(0, .ref (B + oMd)), (1, .int p1), (2, .int p2), (3, .int p3)] [] σ μ ω
  refine x_aload_n C dX6_lay_0 rfl 0 rfl ?_
  refine x_bipush C (v := 38) dX6_lay_1 (by decide) ?_
  refine x_bipush C (v := 9) dX6_lay_3 (by decide) ?_
  refine x_iload_n C dX6_lay_5 rfl 1 rfl ?_
  refine x_imul C dX6_lay_6 ?_
  refine x_iadd C dX6_lay_7 ?_
  refine x_iload_n C dX6_lay_8 rfl 2 rfl ?_
  refine x_iadd C dX6_lay_9 ?_
  refine x_iload_n C dX6_lay_10 rfl 3 rfl ?_
  obtain ⟨q1, hk1, h⟩ := Option.bind_eq_some_iff.mp h
  refine x_callV C (As := [.int (((38 : Int32) + ((9 : Int32) * p1)) + p2), .int p3]) (rest := []) (lw_g_mk tw_1323 rfl) (lw_g_mk tsel_37 rfl) (c_Md) (C1 := "HostelBedsModel") (T := TX6) (N := 27) (ci := 6) rfl (okX6_set l cy D B ek (((38 : Int32) + ((9 : Int32) * p1)) + p2) p3 σ μ ω _ hk1) rfl rfl (by rw [hR9]; decide) (lw_g_mk tw_1324 rfl) (lw_g_mk tw_7 rfl) (by decide) rfl (lw_g_mk tw_1321 rfl) rfl (Nat.le_of_ble_eq_true rfl) dX6_lay_11 (by rw [hR9]; decide) ?_
  cases h
  exact hret _ _ dX6_lay_14
def fX6_persons (p1 : Int32) (μ : Mem) : Option (Int32) := ((fX6_of p1 (2 : Int32) μ).bind fun q1 => ((fX6_of p1 (3 : Int32) μ).bind fun q2 => (some (q1 + q2))))
set_option maxHeartbeats 4000000 in
set_option maxRecDepth 100000 in
theorem okX6_persons (l : Launch) (cy : Nat → ClassId) (D : va_G) (B : Nat) (ek : EK) (p1 : Int32) (σ μ ω : Mem) (res : Int32) (h : fX6_persons p1 μ = some res) : CT l cy D B ek yX6_persons cX6_persons 2 (some .int) ({ frames := 2, cells := 0, slots := 0, locals := 43 } : Room) [.ref (B + oMd), .int p1] σ μ ω (some (.int res)) σ μ ω := by
  refine met_X (own := "HostelBedsModel") (by decide) rfl (Nat.le_of_ble_eq_true rfl) ?_
  intro p e s m args below meth c C hrT hlk
  have hret : ∀ (pc9 : Nat) (lcs9 : List (Nat × Value)), decode cX6_persons pc9 = .ok (.ireturn, 1) → narrow .int (.int res) = .int res → X p l e ({ frames := 2, cells := 0, slots := 0, locals := 43 } : Room) s m args below meth c 2 cy D B 0 0 (MQ below (QR cy D B (some (.int res)) σ μ ω) args s 0 0 (aB B)) pc9 lcs9 [.int res] σ μ ω := fun _ _ hd hn => x_zret C hrT hlk hn hd
  generalize (MQ below (QR cy D B (some (.int res)) σ μ ω) args s 0 0 (aB B)) = Q at hret ⊢
  obtain ⟨R, hR9⟩ : ∃ R : Room, R = ({ frames := 2, cells := 0, slots := 0, locals := 43 } : Room) := ⟨_, rfl⟩
  rw [← hR9] at hret ⊢
  unfold fX6_persons at h
  show X p l e R s m args below meth c 2 cy D B 0 0 Q 0 [(0, .ref (B + oMd)), (1, .int p1)] [] σ μ ω
  refine x_aload_n C dX6_persons_0 rfl 0 rfl ?_
  refine x_iload_n C dX6_persons_1 rfl 1 rfl ?_
  refine x_iconst C (v := 2) dX6_persons_2 (by decide) ?_
  obtain ⟨q1, hk1, h⟩ := Option.bind_eq_some_iff.mp h
  refine x_callV C (As := [.int p1, .int (2 : Int32)]) (rest := []) (lw_g_mk tw_1367 rfl) (lw_g_mk tsel_48 rfl) (c_Md) (C1 := "HostelBedsModel") (T := TX6) (N := 27) (ci := 6) rfl (okX6_of l cy D B ek p1 (2 : Int32) σ μ ω _ hk1) rfl rfl (by rw [hR9]; decide) (lw_g_mk tw_1368 rfl) (lw_g_mk tw_7 rfl) (by decide) rfl (lw_g_mk tw_1365 rfl) rfl (Nat.le_of_ble_eq_true rfl) dX6_persons_3 (by rw [hR9]; decide) ?_
  refine x_aload_n C dX6_persons_6 rfl 0 rfl ?_
  refine x_iload_n C dX6_persons_7 rfl 1 rfl ?_
  refine x_iconst C (v := 3) dX6_persons_8 (by decide) ?_
  obtain ⟨q2, hk2, h⟩ := Option.bind_eq_some_iff.mp h
  refine x_callV C (As := [.int p1, .int (3 : Int32)]) (rest := [.int q1]) (lw_g_mk tw_1367 rfl) (lw_g_mk tsel_48 rfl) (c_Md) (C1 := "HostelBedsModel") (T := TX6) (N := 27) (ci := 6) rfl (okX6_of l cy D B ek p1 (3 : Int32) σ μ ω _ hk2) rfl rfl (by rw [hR9]; decide) (lw_g_mk tw_1368 rfl) (lw_g_mk tw_7 rfl) (by decide) rfl (lw_g_mk tw_1365 rfl) rfl (Nat.le_of_ble_eq_true rfl) dX6_persons_9 (by rw [hR9]; decide) ?_
  refine x_iadd C dX6_persons_12 ?_
  cases h
  exact hret _ _ dX6_persons_13 rfl
def fX6_isRoom (p1 : Int32) (μ : Mem) : Option (Int32) := ((fX6_get (4 : Int32) μ).bind fun q1 => ((fX6_isIn p1 (0 : Int32) (q1 - (1 : Int32))).bind fun q2 => (gd (q2 = 0 ∨ q2 = 1) (some q2))))
set_option maxHeartbeats 4000000 in
set_option maxRecDepth 100000 in
theorem okX6_isRoom (l : Launch) (cy : Nat → ClassId) (D : va_G) (B : Nat) (ek : EK) (p1 : Int32) (σ μ ω : Mem) (res : Int32) (h : fX6_isRoom p1 μ = some res) : CT l cy D B ek yX6_isRoom cX6_isRoom 2 (some .boolean) ({ frames := 1, cells := 0, slots := 0, locals := 22 } : Room) [.ref (B + oMd), .int p1] σ μ ω (some (.int res)) σ μ ω := by
  refine met_X (own := "HostelBedsModel") (by decide) rfl (Nat.le_of_ble_eq_true rfl) ?_
  intro p e s m args below meth c C hrT hlk
  have hret : ∀ (pc9 : Nat) (lcs9 : List (Nat × Value)), decode cX6_isRoom pc9 = .ok (.ireturn, 1) → narrow .boolean (.int res) = .int res → X p l e ({ frames := 1, cells := 0, slots := 0, locals := 22 } : Room) s m args below meth c 2 cy D B 0 0 (MQ below (QR cy D B (some (.int res)) σ μ ω) args s 0 0 (aB B)) pc9 lcs9 [.int res] σ μ ω := fun _ _ hd hn => x_zret C hrT hlk hn hd
  generalize (MQ below (QR cy D B (some (.int res)) σ μ ω) args s 0 0 (aB B)) = Q at hret ⊢
  obtain ⟨R, hR9⟩ : ∃ R : Room, R = ({ frames := 1, cells := 0, slots := 0, locals := 22 } : Room) := ⟨_, rfl⟩
  rw [← hR9] at hret ⊢
  unfold fX6_isRoom at h
  show X p l e R s m args below meth c 2 cy D B 0 0 Q 0 [(0, .ref (B + oMd)), (1, .int p1)] [] σ μ ω
  refine x_iload_n C dX6_isRoom_0 rfl 1 rfl ?_
  refine x_iconst C (v := 0) dX6_isRoom_1 (by decide) ?_
  refine x_aload_n C dX6_isRoom_2 rfl 0 rfl ?_
  refine x_iconst C (v := 4) dX6_isRoom_3 (by decide) ?_
  obtain ⟨q1, hk1, h⟩ := Option.bind_eq_some_iff.mp h
  refine x_callV C (As := [.int (4 : Int32)]) (rest := [.int (0 : Int32), .int p1]) (lw_g_mk tw_1296 rfl) (lw_g_mk tsel_31 rfl) (c_Md) (C1 := "HostelBedsModel") (T := TX6) (N := 27) (ci := 6) rfl (okX6_get l cy D B ek (4 : Int32) σ μ ω _ hk1) rfl rfl (by rw [hR9]; decide) (lw_g_mk tw_1297 rfl) (lw_g_mk tw_7 rfl) (by decide) rfl (lw_g_mk tw_1294 rfl) rfl (Nat.le_of_ble_eq_true rfl) dX6_isRoom_4 (by rw [hR9]; decide) ?_
  refine x_iconst C (v := 1) dX6_isRoom_7 (by decide) ?_
  refine x_isub C dX6_isRoom_8 ?_
  obtain ⟨q2, hk2, h⟩ := Option.bind_eq_some_iff.mp h
  refine x_callS C (As := [.int p1, .int (0 : Int32), .int (q1 - (1 : Int32))]) (rest := []) (lw_g_mk tw_1235 rfl) (okX6_isIn l cy D B ek p1 (0 : Int32) (q1 - (1 : Int32)) σ μ ω _ hk2) rfl rfl (by rw [hR9]; decide) (lw_g_mk tw_1236 rfl) (lw_g_mk tw_7 rfl) (by decide) rfl (lw_g_mk tw_1234 rfl) rfl (Nat.le_of_ble_eq_true rfl) dX6_isRoom_9 (by rw [hR9]; decide) ?_
  obtain ⟨hg3, h⟩ := gd_some h
  cases h
  exact hret _ _ dX6_isRoom_12 (nar_Z hg3)
def fX6_isBooking (p1 : Int32) (μ : Mem) : Option (Int32) := ((fX6_get (37 : Int32) μ).bind fun q1 => ((fX6_isIn p1 (0 : Int32) (q1 - (1 : Int32))).bind fun q2 => (gd (q2 = 0 ∨ q2 = 1) (some q2))))
set_option maxHeartbeats 4000000 in
set_option maxRecDepth 100000 in
theorem okX6_isBooking (l : Launch) (cy : Nat → ClassId) (D : va_G) (B : Nat) (ek : EK) (p1 : Int32) (σ μ ω : Mem) (res : Int32) (h : fX6_isBooking p1 μ = some res) : CT l cy D B ek yX6_isBooking cX6_isBooking 2 (some .boolean) ({ frames := 1, cells := 0, slots := 0, locals := 22 } : Room) [.ref (B + oMd), .int p1] σ μ ω (some (.int res)) σ μ ω := by
  refine met_X (own := "HostelBedsModel") (by decide) rfl (Nat.le_of_ble_eq_true rfl) ?_
  intro p e s m args below meth c C hrT hlk
  have hret : ∀ (pc9 : Nat) (lcs9 : List (Nat × Value)), decode cX6_isBooking pc9 = .ok (.ireturn, 1) → narrow .boolean (.int res) = .int res → X p l e ({ frames := 1, cells := 0, slots := 0, locals := 22 } : Room) s m args below meth c 2 cy D B 0 0 (MQ below (QR cy D B (some (.int res)) σ μ ω) args s 0 0 (aB B)) pc9 lcs9 [.int res] σ μ ω := fun _ _ hd hn => x_zret C hrT hlk hn hd
  generalize (MQ below (QR cy D B (some (.int res)) σ μ ω) args s 0 0 (aB B)) = Q at hret ⊢
  obtain ⟨R, hR9⟩ : ∃ R : Room, R = ({ frames := 1, cells := 0, slots := 0, locals := 22 } : Room) := ⟨_, rfl⟩
  rw [← hR9] at hret ⊢
  unfold fX6_isBooking at h
  show X p l e R s m args below meth c 2 cy D B 0 0 Q 0 [(0, .ref (B + oMd)), (1, .int p1)] [] σ μ ω
  refine x_iload_n C dX6_isBooking_0 rfl 1 rfl ?_
  refine x_iconst C (v := 0) dX6_isBooking_1 (by decide) ?_
  refine x_aload_n C dX6_isBooking_2 rfl 0 rfl ?_
  refine x_bipush C (v := 37) dX6_isBooking_3 (by decide) ?_
  obtain ⟨q1, hk1, h⟩ := Option.bind_eq_some_iff.mp h
  refine x_callV C (As := [.int (37 : Int32)]) (rest := [.int (0 : Int32), .int p1]) (lw_g_mk tw_1296 rfl) (lw_g_mk tsel_31 rfl) (c_Md) (C1 := "HostelBedsModel") (T := TX6) (N := 27) (ci := 6) rfl (okX6_get l cy D B ek (37 : Int32) σ μ ω _ hk1) rfl rfl (by rw [hR9]; decide) (lw_g_mk tw_1297 rfl) (lw_g_mk tw_7 rfl) (by decide) rfl (lw_g_mk tw_1294 rfl) rfl (Nat.le_of_ble_eq_true rfl) dX6_isBooking_5 (by rw [hR9]; decide) ?_
  refine x_iconst C (v := 1) dX6_isBooking_8 (by decide) ?_
  refine x_isub C dX6_isBooking_9 ?_
  obtain ⟨q2, hk2, h⟩ := Option.bind_eq_some_iff.mp h
  refine x_callS C (As := [.int p1, .int (0 : Int32), .int (q1 - (1 : Int32))]) (rest := []) (lw_g_mk tw_1235 rfl) (okX6_isIn l cy D B ek p1 (0 : Int32) (q1 - (1 : Int32)) σ μ ω _ hk2) rfl rfl (by rw [hR9]; decide) (lw_g_mk tw_1236 rfl) (lw_g_mk tw_7 rfl) (by decide) rfl (lw_g_mk tw_1234 rfl) rfl (Nat.le_of_ble_eq_true rfl) dX6_isBooking_10 (by rw [hR9]; decide) ?_
  obtain ⟨hg3, h⟩ := gd_some h
  cases h
  exact hret _ _ dX6_isBooking_13 (nar_Z hg3)
def fX6_isNight (p1 : Int32) : Option (Int32) := ((fX6_isIn p1 (0 : Int32) (29 : Int32)).bind fun q1 => (gd (q1 = 0 ∨ q1 = 1) (some q1)))
set_option maxHeartbeats 4000000 in
set_option maxRecDepth 100000 in
theorem okX6_isNight (l : Launch) (cy : Nat → ClassId) (D : va_G) (B : Nat) (ek : EK) (p1 : Int32) (σ μ ω : Mem) (res : Int32) (h : fX6_isNight p1 = some res) : CT l cy D B ek yX6_isNight cX6_isNight 1 (some .boolean) ({ frames := 1, cells := 0, slots := 0, locals := 22 } : Room) [.int p1] σ μ ω (some (.int res)) σ μ ω := by
  refine met_X (own := "HostelBedsModel") (by decide) rfl (Nat.le_of_ble_eq_true rfl) ?_
  intro p e s m args below meth c C hrT hlk
  have hret : ∀ (pc9 : Nat) (lcs9 : List (Nat × Value)), decode cX6_isNight pc9 = .ok (.ireturn, 1) → narrow .boolean (.int res) = .int res → X p l e ({ frames := 1, cells := 0, slots := 0, locals := 22 } : Room) s m args below meth c 1 cy D B 0 0 (MQ below (QR cy D B (some (.int res)) σ μ ω) args s 0 0 (aB B)) pc9 lcs9 [.int res] σ μ ω := fun _ _ hd hn => x_zret C hrT hlk hn hd
  generalize (MQ below (QR cy D B (some (.int res)) σ μ ω) args s 0 0 (aB B)) = Q at hret ⊢
  obtain ⟨R, hR9⟩ : ∃ R : Room, R = ({ frames := 1, cells := 0, slots := 0, locals := 22 } : Room) := ⟨_, rfl⟩
  rw [← hR9] at hret ⊢
  unfold fX6_isNight at h
  show X p l e R s m args below meth c 1 cy D B 0 0 Q 0 [(0, .int p1)] [] σ μ ω
  refine x_iload_n C dX6_isNight_0 rfl 0 rfl ?_
  refine x_iconst C (v := 0) dX6_isNight_1 (by decide) ?_
  refine x_bipush C (v := 29) dX6_isNight_2 (by decide) ?_
  obtain ⟨q1, hk1, h⟩ := Option.bind_eq_some_iff.mp h
  refine x_callS C (As := [.int p1, .int (0 : Int32), .int (29 : Int32)]) (rest := []) (lw_g_mk tw_1235 rfl) (okX6_isIn l cy D B ek p1 (0 : Int32) (29 : Int32) σ μ ω _ hk1) rfl rfl (by rw [hR9]; decide) (lw_g_mk tw_1236 rfl) (lw_g_mk tw_7 rfl) (by decide) rfl (lw_g_mk tw_1234 rfl) rfl (Nat.le_of_ble_eq_true rfl) dX6_isNight_4 (by rw [hR9]; decide) ?_
  obtain ⟨hg2, h⟩ := gd_some h
  cases h
  exact hret _ _ dX6_isNight_7 (nar_Z hg2)
def jX6_isBed_28 : Option (Int32) := (some ((0 : Int32)))
def fX6_isBed (p1 : Int32) (p2 : Int32) (μ : Mem) : Option (Int32) := ((fX6_isRoom p1 μ).bind fun q1 => (if q1 = 0 then (jX6_isBed_28) else ((fX6_roomIs p1 (1 : Int32) μ).bind fun q2 => ((fX6_isIn p2 (0 : Int32) (q2 - (1 : Int32))).bind fun q3 => (if q3 = 0 then (jX6_isBed_28) else (some ((1 : Int32))))))))
set_option maxHeartbeats 4000000 in
set_option maxRecDepth 100000 in
theorem okX6_isBed (l : Launch) (cy : Nat → ClassId) (D : va_G) (B : Nat) (ek : EK) (p1 : Int32) (p2 : Int32) (σ μ ω : Mem) (res : Int32) (h : fX6_isBed p1 p2 μ = some res) : CT l cy D B ek yX6_isBed cX6_isBed 3 (some .boolean) ({ frames := 2, cells := 0, slots := 0, locals := 43 } : Room) [.ref (B + oMd), .int p1, .int p2] σ μ ω (some (.int res)) σ μ ω := by
  refine met_X (own := "HostelBedsModel") (by decide) rfl (Nat.le_of_ble_eq_true rfl) ?_
  intro p e s m args below meth c C hrT hlk
  have hret : ∀ (pc9 : Nat) (lcs9 : List (Nat × Value)), decode cX6_isBed pc9 = .ok (.ireturn, 1) → narrow .boolean (.int res) = .int res → X p l e ({ frames := 2, cells := 0, slots := 0, locals := 43 } : Room) s m args below meth c 3 cy D B 0 0 (MQ below (QR cy D B (some (.int res)) σ μ ω) args s 0 0 (aB B)) pc9 lcs9 [.int res] σ μ ω := fun _ _ hd hn => x_zret C hrT hlk hn hd
  generalize (MQ below (QR cy D B (some (.int res)) σ μ ω) args s 0 0 (aB B)) = Q at hret ⊢
  obtain ⟨R, hR9⟩ : ∃ R : Room, R = ({ frames := 2, cells := 0, slots := 0, locals := 43 } : Room) := ⟨_, rfl⟩
  rw [← hR9] at hret ⊢
  unfold fX6_isBed at h
  show X p l e R s m args below meth c 3 cy D B 0 0 Q 0 [(0, .ref (B + oMd)), (1, .int p1), (2, .int p2)] [] σ μ ω
  refine x_aload_n C dX6_isBed_0 rfl 0 rfl ?_
  refine x_iload_n C dX6_isBed_1 rfl 1 rfl ?_
  obtain ⟨q1, hk1, h⟩ := Option.bind_eq_some_iff.mp h
  refine x_callV C (As := [.int p1]) (rest := []) (lw_g_mk tw_1423 rfl) (lw_g_mk tsel_58 rfl) (c_Md) (C1 := "HostelBedsModel") (T := TX6) (N := 27) (ci := 6) rfl (okX6_isRoom l cy D B ek p1 σ μ ω _ hk1) rfl rfl (by rw [hR9]; decide) (lw_g_mk tw_1424 rfl) (lw_g_mk tw_7 rfl) (by decide) rfl (lw_g_mk tw_1421 rfl) rfl (Nat.le_of_ble_eq_true rfl) dX6_isBed_2 (by rw [hR9]; decide) ?_
  have hJ2 : ∀ (r9 : Int32), jX6_isBed_28 = some r9 → (∀ (pc9 : Nat) (lcs9 : List (Nat × Value)), decode cX6_isBed pc9 = .ok (.ireturn, 1) → narrow .boolean (.int r9) = .int r9 → X p l e R s m args below meth c 3 cy D B 0 0 Q pc9 lcs9 [.int r9] σ μ ω) → X p l e R s m args below meth c 3 cy D B 0 0 Q 28 [] [] σ μ ω := by
    intro res9 h hret
    unfold jX6_isBed_28 at h
    refine x_iconst C (v := 0) dX6_isBed_28 (by decide) ?_
    cases h
    exact hret _ _ dX6_isBed_29 (nar_Z (Or.inl rfl))
  refine x_if_eq C (tgt := 28) dX6_isBed_5 (by decide) (fun hc3 => ?_) (fun hc3 => ?_)
  · rw [if_pos hc3] at h
    refine x_sub [] rfl ?_
    exact hJ2 _ h hret
  · rw [if_neg hc3] at h
    refine x_iload_n C dX6_isBed_8 rfl 2 rfl ?_
    refine x_iconst C (v := 0) dX6_isBed_9 (by decide) ?_
    refine x_aload_n C dX6_isBed_10 rfl 0 rfl ?_
    refine x_iload_n C dX6_isBed_11 rfl 1 rfl ?_
    refine x_iconst C (v := 1) dX6_isBed_12 (by decide) ?_
    obtain ⟨q2, hk4, h⟩ := Option.bind_eq_some_iff.mp h
    refine x_callV C (As := [.int p1, .int (1 : Int32)]) (rest := [.int (0 : Int32), .int p2]) (lw_g_mk tw_1359 rfl) (lw_g_mk tsel_46 rfl) (c_Md) (C1 := "HostelBedsModel") (T := TX6) (N := 27) (ci := 6) rfl (okX6_roomIs l cy D B ek p1 (1 : Int32) σ μ ω _ hk4) rfl rfl (by rw [hR9]; decide) (lw_g_mk tw_1360 rfl) (lw_g_mk tw_7 rfl) (by decide) rfl (lw_g_mk tw_1357 rfl) rfl (Nat.le_of_ble_eq_true rfl) dX6_isBed_13 (by rw [hR9]; decide) ?_
    refine x_iconst C (v := 1) dX6_isBed_16 (by decide) ?_
    refine x_isub C dX6_isBed_17 ?_
    obtain ⟨q3, hk5, h⟩ := Option.bind_eq_some_iff.mp h
    refine x_callS C (As := [.int p2, .int (0 : Int32), .int (q2 - (1 : Int32))]) (rest := []) (lw_g_mk tw_1235 rfl) (okX6_isIn l cy D B ek p2 (0 : Int32) (q2 - (1 : Int32)) σ μ ω _ hk5) rfl rfl (by rw [hR9]; decide) (lw_g_mk tw_1236 rfl) (lw_g_mk tw_7 rfl) (by decide) rfl (lw_g_mk tw_1234 rfl) rfl (Nat.le_of_ble_eq_true rfl) dX6_isBed_18 (by rw [hR9]; decide) ?_
    refine x_if_eq C (tgt := 28) dX6_isBed_21 (by decide) (fun hc6 => ?_) (fun hc6 => ?_)
    · rw [if_pos hc6] at h
      refine x_sub [] rfl ?_
      exact hJ2 _ h hret
    · rw [if_neg hc6] at h
      refine x_iconst C (v := 1) dX6_isBed_24 (by decide) ?_
      refine x_goto C (tgt := 29) dX6_isBed_25 (by decide) ?_
      cases h
      exact hret _ _ dX6_isBed_29 (nar_Z (Or.inr rfl))
def fX6_staysIn (p1 : Int32) (p2 : Int32) (μ : Mem) : Option (Int32) := ((fX6_of p1 (0 : Int32) μ).bind fun q1 => ((fX6_of p1 (0 : Int32) μ).bind fun q2 => ((fX6_of p1 (1 : Int32) μ).bind fun q3 => ((fX6_isIn p2 q1 ((q2 + q3) - (1 : Int32))).bind fun q4 => (gd (q4 = 0 ∨ q4 = 1) (some q4))))))
set_option maxHeartbeats 4000000 in
set_option maxRecDepth 100000 in
theorem okX6_staysIn (l : Launch) (cy : Nat → ClassId) (D : va_G) (B : Nat) (ek : EK) (p1 : Int32) (p2 : Int32) (σ μ ω : Mem) (res : Int32) (h : fX6_staysIn p1 p2 μ = some res) : CT l cy D B ek yX6_staysIn cX6_staysIn 3 (some .boolean) ({ frames := 2, cells := 0, slots := 0, locals := 43 } : Room) [.ref (B + oMd), .int p1, .int p2] σ μ ω (some (.int res)) σ μ ω := by
  refine met_X (own := "HostelBedsModel") (by decide) rfl (Nat.le_of_ble_eq_true rfl) ?_
  intro p e s m args below meth c C hrT hlk
  have hret : ∀ (pc9 : Nat) (lcs9 : List (Nat × Value)), decode cX6_staysIn pc9 = .ok (.ireturn, 1) → narrow .boolean (.int res) = .int res → X p l e ({ frames := 2, cells := 0, slots := 0, locals := 43 } : Room) s m args below meth c 3 cy D B 0 0 (MQ below (QR cy D B (some (.int res)) σ μ ω) args s 0 0 (aB B)) pc9 lcs9 [.int res] σ μ ω := fun _ _ hd hn => x_zret C hrT hlk hn hd
  generalize (MQ below (QR cy D B (some (.int res)) σ μ ω) args s 0 0 (aB B)) = Q at hret ⊢
  obtain ⟨R, hR9⟩ : ∃ R : Room, R = ({ frames := 2, cells := 0, slots := 0, locals := 43 } : Room) := ⟨_, rfl⟩
  rw [← hR9] at hret ⊢
  unfold fX6_staysIn at h
  show X p l e R s m args below meth c 3 cy D B 0 0 Q 0 [(0, .ref (B + oMd)), (1, .int p1), (2, .int p2)] [] σ μ ω
  refine x_iload_n C dX6_staysIn_0 rfl 2 rfl ?_
  refine x_aload_n C dX6_staysIn_1 rfl 0 rfl ?_
  refine x_iload_n C dX6_staysIn_2 rfl 1 rfl ?_
  refine x_iconst C (v := 0) dX6_staysIn_3 (by decide) ?_
  obtain ⟨q1, hk1, h⟩ := Option.bind_eq_some_iff.mp h
  refine x_callV C (As := [.int p1, .int (0 : Int32)]) (rest := [.int p2]) (lw_g_mk tw_1367 rfl) (lw_g_mk tsel_48 rfl) (c_Md) (C1 := "HostelBedsModel") (T := TX6) (N := 27) (ci := 6) rfl (okX6_of l cy D B ek p1 (0 : Int32) σ μ ω _ hk1) rfl rfl (by rw [hR9]; decide) (lw_g_mk tw_1368 rfl) (lw_g_mk tw_7 rfl) (by decide) rfl (lw_g_mk tw_1365 rfl) rfl (Nat.le_of_ble_eq_true rfl) dX6_staysIn_4 (by rw [hR9]; decide) ?_
  refine x_aload_n C dX6_staysIn_7 rfl 0 rfl ?_
  refine x_iload_n C dX6_staysIn_8 rfl 1 rfl ?_
  refine x_iconst C (v := 0) dX6_staysIn_9 (by decide) ?_
  obtain ⟨q2, hk2, h⟩ := Option.bind_eq_some_iff.mp h
  refine x_callV C (As := [.int p1, .int (0 : Int32)]) (rest := [.int q1, .int p2]) (lw_g_mk tw_1367 rfl) (lw_g_mk tsel_48 rfl) (c_Md) (C1 := "HostelBedsModel") (T := TX6) (N := 27) (ci := 6) rfl (okX6_of l cy D B ek p1 (0 : Int32) σ μ ω _ hk2) rfl rfl (by rw [hR9]; decide) (lw_g_mk tw_1368 rfl) (lw_g_mk tw_7 rfl) (by decide) rfl (lw_g_mk tw_1365 rfl) rfl (Nat.le_of_ble_eq_true rfl) dX6_staysIn_10 (by rw [hR9]; decide) ?_
  refine x_aload_n C dX6_staysIn_13 rfl 0 rfl ?_
  refine x_iload_n C dX6_staysIn_14 rfl 1 rfl ?_
  refine x_iconst C (v := 1) dX6_staysIn_15 (by decide) ?_
  obtain ⟨q3, hk3, h⟩ := Option.bind_eq_some_iff.mp h
  refine x_callV C (As := [.int p1, .int (1 : Int32)]) (rest := [.int q2, .int q1, .int p2]) (lw_g_mk tw_1367 rfl) (lw_g_mk tsel_48 rfl) (c_Md) (C1 := "HostelBedsModel") (T := TX6) (N := 27) (ci := 6) rfl (okX6_of l cy D B ek p1 (1 : Int32) σ μ ω _ hk3) rfl rfl (by rw [hR9]; decide) (lw_g_mk tw_1368 rfl) (lw_g_mk tw_7 rfl) (by decide) rfl (lw_g_mk tw_1365 rfl) rfl (Nat.le_of_ble_eq_true rfl) dX6_staysIn_16 (by rw [hR9]; decide) ?_
  refine x_iadd C dX6_staysIn_19 ?_
  refine x_iconst C (v := 1) dX6_staysIn_20 (by decide) ?_
  refine x_isub C dX6_staysIn_21 ?_
  obtain ⟨q4, hk4, h⟩ := Option.bind_eq_some_iff.mp h
  refine x_callS C (As := [.int p2, .int q1, .int ((q2 + q3) - (1 : Int32))]) (rest := []) (lw_g_mk tw_1235 rfl) (okX6_isIn l cy D B ek p2 q1 ((q2 + q3) - (1 : Int32)) σ μ ω _ hk4) rfl rfl (by rw [hR9]; decide) (lw_g_mk tw_1236 rfl) (lw_g_mk tw_7 rfl) (by decide) rfl (lw_g_mk tw_1234 rfl) rfl (Nat.le_of_ble_eq_true rfl) dX6_staysIn_22 (by rw [hR9]; decide) ?_
  obtain ⟨hg5, h⟩ := gd_some h
  cases h
  exact hret _ _ dX6_staysIn_25 (nar_Z hg5)
def fX6_put (p1 : Int32) (μ : Mem) : Option (Mem) := (gd (inb (rI μ 66 0 0) 700) (gd (inb ((rI (wI μ 65 0 (rI μ 66 0 0).toNatClampNeg (vp_nar .byte ((p1 >>> ((24 : Int32) &&& 31)).toInt8.toInt32))) 66 0 0) + (1 : Int32)) 700) (gd (inb ((rI (wI (wI μ 65 0 (rI μ 66 0 0).toNatClampNeg (vp_nar .byte ((p1 >>> ((24 : Int32) &&& 31)).toInt8.toInt32))) 65 0 ((rI (wI μ 65 0 (rI μ 66 0 0).toNatClampNeg (vp_nar .byte ((p1 >>> ((24 : Int32) &&& 31)).toInt8.toInt32))) 66 0 0) + (1 : Int32)).toNatClampNeg (vp_nar .byte ((p1 >>> ((16 : Int32) &&& 31)).toInt8.toInt32))) 66 0 0) + (2 : Int32)) 700) (gd (inb ((rI (wI (wI (wI μ 65 0 (rI μ 66 0 0).toNatClampNeg (vp_nar .byte ((p1 >>> ((24 : Int32) &&& 31)).toInt8.toInt32))) 65 0 ((rI (wI μ 65 0 (rI μ 66 0 0).toNatClampNeg (vp_nar .byte ((p1 >>> ((24 : Int32) &&& 31)).toInt8.toInt32))) 66 0 0) + (1 : Int32)).toNatClampNeg (vp_nar .byte ((p1 >>> ((16 : Int32) &&& 31)).toInt8.toInt32))) 65 0 ((rI (wI (wI μ 65 0 (rI μ 66 0 0).toNatClampNeg (vp_nar .byte ((p1 >>> ((24 : Int32) &&& 31)).toInt8.toInt32))) 65 0 ((rI (wI μ 65 0 (rI μ 66 0 0).toNatClampNeg (vp_nar .byte ((p1 >>> ((24 : Int32) &&& 31)).toInt8.toInt32))) 66 0 0) + (1 : Int32)).toNatClampNeg (vp_nar .byte ((p1 >>> ((16 : Int32) &&& 31)).toInt8.toInt32))) 66 0 0) + (2 : Int32)).toNatClampNeg (vp_nar .byte ((p1 >>> ((8 : Int32) &&& 31)).toInt8.toInt32))) 66 0 0) + (3 : Int32)) 700) (some (wI (wI (wI (wI (wI μ 65 0 (rI μ 66 0 0).toNatClampNeg (vp_nar .byte ((p1 >>> ((24 : Int32) &&& 31)).toInt8.toInt32))) 65 0 ((rI (wI μ 65 0 (rI μ 66 0 0).toNatClampNeg (vp_nar .byte ((p1 >>> ((24 : Int32) &&& 31)).toInt8.toInt32))) 66 0 0) + (1 : Int32)).toNatClampNeg (vp_nar .byte ((p1 >>> ((16 : Int32) &&& 31)).toInt8.toInt32))) 65 0 ((rI (wI (wI μ 65 0 (rI μ 66 0 0).toNatClampNeg (vp_nar .byte ((p1 >>> ((24 : Int32) &&& 31)).toInt8.toInt32))) 65 0 ((rI (wI μ 65 0 (rI μ 66 0 0).toNatClampNeg (vp_nar .byte ((p1 >>> ((24 : Int32) &&& 31)).toInt8.toInt32))) 66 0 0) + (1 : Int32)).toNatClampNeg (vp_nar .byte ((p1 >>> ((16 : Int32) &&& 31)).toInt8.toInt32))) 66 0 0) + (2 : Int32)).toNatClampNeg (vp_nar .byte ((p1 >>> ((8 : Int32) &&& 31)).toInt8.toInt32))) 65 0 ((rI (wI (wI (wI μ 65 0 (rI μ 66 0 0).toNatClampNeg (vp_nar .byte ((p1 >>> ((24 : Int32) &&& 31)).toInt8.toInt32))) 65 0 ((rI (wI μ 65 0 (rI μ 66 0 0).toNatClampNeg (vp_nar .byte ((p1 >>> ((24 : Int32) &&& 31)).toInt8.toInt32))) 66 0 0) + (1 : Int32)).toNatClampNeg (vp_nar .byte ((p1 >>> ((16 : Int32) &&& 31)).toInt8.toInt32))) 65 0 ((rI (wI (wI μ 65 0 (rI μ 66 0 0).toNatClampNeg (vp_nar .byte ((p1 >>> ((24 : Int32) &&& 31)).toInt8.toInt32))) 65 0 ((rI (wI μ 65 0 (rI μ 66 0 0).toNatClampNeg (vp_nar .byte ((p1 >>> ((24 : Int32) &&& 31)).toInt8.toInt32))) 66 0 0) + (1 : Int32)).toNatClampNeg (vp_nar .byte ((p1 >>> ((16 : Int32) &&& 31)).toInt8.toInt32))) 66 0 0) + (2 : Int32)).toNatClampNeg (vp_nar .byte ((p1 >>> ((8 : Int32) &&& 31)).toInt8.toInt32))) 66 0 0) + (3 : Int32)).toNatClampNeg (vp_nar .byte p1.toInt8.toInt32)) 66 0 0 ((rI (wI (wI (wI (wI μ 65 0 (rI μ 66 0 0).toNatClampNeg (vp_nar .byte ((p1 >>> ((24 : Int32) &&& 31)).toInt8.toInt32))) 65 0 ((rI (wI μ 65 0 (rI μ 66 0 0).toNatClampNeg (vp_nar .byte ((p1 >>> ((24 : Int32) &&& 31)).toInt8.toInt32))) 66 0 0) + (1 : Int32)).toNatClampNeg (vp_nar .byte ((p1 >>> ((16 : Int32) &&& 31)).toInt8.toInt32))) 65 0 ((rI (wI (wI μ 65 0 (rI μ 66 0 0).toNatClampNeg (vp_nar .byte ((p1 >>> ((24 : Int32) &&& 31)).toInt8.toInt32))) 65 0 ((rI (wI μ 65 0 (rI μ 66 0 0).toNatClampNeg (vp_nar .byte ((p1 >>> ((24 : Int32) &&& 31)).toInt8.toInt32))) 66 0 0) + (1 : Int32)).toNatClampNeg (vp_nar .byte ((p1 >>> ((16 : Int32) &&& 31)).toInt8.toInt32))) 66 0 0) + (2 : Int32)).toNatClampNeg (vp_nar .byte ((p1 >>> ((8 : Int32) &&& 31)).toInt8.toInt32))) 65 0 ((rI (wI (wI (wI μ 65 0 (rI μ 66 0 0).toNatClampNeg (vp_nar .byte ((p1 >>> ((24 : Int32) &&& 31)).toInt8.toInt32))) 65 0 ((rI (wI μ 65 0 (rI μ 66 0 0).toNatClampNeg (vp_nar .byte ((p1 >>> ((24 : Int32) &&& 31)).toInt8.toInt32))) 66 0 0) + (1 : Int32)).toNatClampNeg (vp_nar .byte ((p1 >>> ((16 : Int32) &&& 31)).toInt8.toInt32))) 65 0 ((rI (wI (wI μ 65 0 (rI μ 66 0 0).toNatClampNeg (vp_nar .byte ((p1 >>> ((24 : Int32) &&& 31)).toInt8.toInt32))) 65 0 ((rI (wI μ 65 0 (rI μ 66 0 0).toNatClampNeg (vp_nar .byte ((p1 >>> ((24 : Int32) &&& 31)).toInt8.toInt32))) 66 0 0) + (1 : Int32)).toNatClampNeg (vp_nar .byte ((p1 >>> ((16 : Int32) &&& 31)).toInt8.toInt32))) 66 0 0) + (2 : Int32)).toNatClampNeg (vp_nar .byte ((p1 >>> ((8 : Int32) &&& 31)).toInt8.toInt32))) 66 0 0) + (3 : Int32)).toNatClampNeg (vp_nar .byte p1.toInt8.toInt32)) 66 0 0) + (4 : Int32))))))))
set_option maxHeartbeats 4000000 in
set_option maxRecDepth 100000 in
theorem okX6_put (l : Launch) (cy : Nat → ClassId) (D : va_G) (B : Nat) (ek : EK) (p1 : Int32) (σ μ ω : Mem) (res : Mem) (h : fX6_put p1 μ = some res) : CT l cy D B ek yX6_put cX6_put 2 none ({ frames := 0, cells := 0, slots := 0, locals := 0 } : Room) [.ref (B + oMd), .int p1] σ μ ω none σ res ω := by
  refine met_X (own := "HostelBedsModel") (by decide) rfl (Nat.le_of_ble_eq_true rfl) ?_
  intro p e s m args below meth c C hrT hlk
  have hret : ∀ (pc9 : Nat) (lcs9 : List (Nat × Value)), decode cX6_put pc9 = .ok (.return_, 1) → X p l e ({ frames := 0, cells := 0, slots := 0, locals := 0 } : Room) s m args below meth c 2 cy D B 0 0 (MQ below (QR cy D B none σ res ω) args s 0 0 (aB B)) pc9 lcs9 [] σ res ω := fun _ _ hd => x_vret C hrT hlk hd
  generalize (MQ below (QR cy D B none σ res ω) args s 0 0 (aB B)) = Q at hret ⊢
  obtain ⟨R, hR9⟩ : ∃ R : Room, R = ({ frames := 0, cells := 0, slots := 0, locals := 0 } : Room) := ⟨_, rfl⟩
  rw [← hR9] at hret ⊢
  unfold fX6_put at h
  show X p l e R s m args below meth c 2 cy D B 0 0 Q 0 [(0, .ref (B + oMd)), (1, .int p1)] [] σ μ ω
  refine x_aload_n C dX6_put_0 rfl 0 rfl ?_
  refine x_get C (C1 := "HostelBedsModel") (T := TX6) (N := 27) (ci := 6) inXg6 _ (c_Md) rfl 9 (by decide) (lw_g_mk tw_1140 rfl) rfl dX6_put_1 ?_
  refine x_aload_n C dX6_put_4 rfl 0 rfl ?_
  refine x_get C (C1 := "HostelBedsModel") (T := TX6) (N := 27) (ci := 6) inXg6 _ (c_Md) rfl 10 (by decide) (lw_g_mk tw_1141 rfl) rfl dX6_put_5 ?_
  refine x_iload_n C dX6_put_8 rfl 1 rfl ?_
  refine x_bipush C (v := 24) dX6_put_9 (by decide) ?_
  refine x_ishr C dX6_put_11 ?_
  refine x_i2b C dX6_put_12 ?_
  obtain ⟨hg1, h⟩ := gd_some h
  refine x_bast C _ (c_Buf) hg1 dX6_put_13 (s_Buf) ?_
  refine x_aload_n C dX6_put_14 rfl 0 rfl ?_
  refine x_get C (C1 := "HostelBedsModel") (T := TX6) (N := 27) (ci := 6) inXg6 _ (c_Md) rfl 9 (by decide) (lw_g_mk tw_1140 rfl) rfl dX6_put_15 ?_
  refine x_aload_n C dX6_put_18 rfl 0 rfl ?_
  refine x_get C (C1 := "HostelBedsModel") (T := TX6) (N := 27) (ci := 6) inXg6 _ (c_Md) rfl 10 (by decide) (lw_g_mk tw_1141 rfl) rfl dX6_put_19 ?_
  refine x_iconst C (v := 1) dX6_put_22 (by decide) ?_
  refine x_iadd C dX6_put_23 ?_
  refine x_iload_n C dX6_put_24 rfl 1 rfl ?_
  refine x_bipush C (v := 16) dX6_put_25 (by decide) ?_
  refine x_ishr C dX6_put_27 ?_
  refine x_i2b C dX6_put_28 ?_
  obtain ⟨hg2, h⟩ := gd_some h
  refine x_bast C _ (c_Buf) hg2 dX6_put_29 (s_Buf) ?_
  refine x_aload_n C dX6_put_30 rfl 0 rfl ?_
  refine x_get C (C1 := "HostelBedsModel") (T := TX6) (N := 27) (ci := 6) inXg6 _ (c_Md) rfl 9 (by decide) (lw_g_mk tw_1140 rfl) rfl dX6_put_31 ?_
  refine x_aload_n C dX6_put_34 rfl 0 rfl ?_
  refine x_get C (C1 := "HostelBedsModel") (T := TX6) (N := 27) (ci := 6) inXg6 _ (c_Md) rfl 10 (by decide) (lw_g_mk tw_1141 rfl) rfl dX6_put_35 ?_
  refine x_iconst C (v := 2) dX6_put_38 (by decide) ?_
  refine x_iadd C dX6_put_39 ?_
  refine x_iload_n C dX6_put_40 rfl 1 rfl ?_
  refine x_bipush C (v := 8) dX6_put_41 (by decide) ?_
  refine x_ishr C dX6_put_43 ?_
  refine x_i2b C dX6_put_44 ?_
  obtain ⟨hg3, h⟩ := gd_some h
  refine x_bast C _ (c_Buf) hg3 dX6_put_45 (s_Buf) ?_
  refine x_aload_n C dX6_put_46 rfl 0 rfl ?_
  refine x_get C (C1 := "HostelBedsModel") (T := TX6) (N := 27) (ci := 6) inXg6 _ (c_Md) rfl 9 (by decide) (lw_g_mk tw_1140 rfl) rfl dX6_put_47 ?_
  refine x_aload_n C dX6_put_50 rfl 0 rfl ?_
  refine x_get C (C1 := "HostelBedsModel") (T := TX6) (N := 27) (ci := 6) inXg6 _ (c_Md) rfl 10 (by decide) (lw_g_mk tw_1141 rfl) rfl dX6_put_51 ?_
  refine x_iconst C (v := 3) dX6_put_54 (by decide) ?_
  refine x_iadd C dX6_put_55 ?_
  refine x_iload_n C dX6_put_56 rfl 1 rfl ?_
  refine x_i2b C dX6_put_57 ?_
  obtain ⟨hg4, h⟩ := gd_some h
  refine x_bast C _ (c_Buf) hg4 dX6_put_58 (s_Buf) ?_
  refine x_aload_n C dX6_put_59 rfl 0 rfl ?_
  refine x_dup C dX6_put_60 rfl ?_
  refine x_get C (C1 := "HostelBedsModel") (T := TX6) (N := 27) (ci := 6) inXg6 _ (c_Md) rfl 10 (by decide) (lw_g_mk tw_1141 rfl) rfl dX6_put_61 ?_
  refine x_iconst C (v := 4) dX6_put_64 (by decide) ?_
  refine x_iadd C dX6_put_65 ?_
  refine x_put C (C1 := "HostelBedsModel") (T := TX6) (N := 27) (ci := 6) inXg6 tyX6 tyX6_ok nmX6 _ (c_Md) rfl 10 (by decide) (lw_g_mk tw_1141 rfl) rfl rfl rfl rfl (Nat.le_of_ble_eq_true rfl) dX6_put_66 (s_Md_buffered) ?_
  cases h
  exact hret _ _ dX6_put_69
def fX6_append (p1 : Int32) (p2 : Int32) (p3 : Int32) (p4 : Int32) (p5 : Int32) (μ : Mem) : Option (Int32 × Mem) := (if ((rI (wI μ 60 0 0 (0 : Int32)) 66 0 0) + (20 : Int32)) ≤ (700 : Int32) then ((fX6_put p1 (wI μ 60 0 0 (0 : Int32))).bind fun q1 => ((fX6_put p2 q1).bind fun q2 => ((fX6_put p3 q2).bind fun q3 => ((fX6_put p4 q3).bind fun q4 => ((fX6_put p5 q4).bind fun q5 => (some (rI q5 66 0 0, q5))))))) else ((fX6_fails (1 : Int32) (wI μ 60 0 0 (0 : Int32))).bind fun q6 => (some (q6.1, q6.2))))
set_option maxHeartbeats 4000000 in
set_option maxRecDepth 100000 in
theorem okX6_append (l : Launch) (cy : Nat → ClassId) (D : va_G) (B : Nat) (ek : EK) (p1 : Int32) (p2 : Int32) (p3 : Int32) (p4 : Int32) (p5 : Int32) (σ μ ω : Mem) (res : Int32 × Mem) (h : fX6_append p1 p2 p3 p4 p5 μ = some res) : CT l cy D B ek yX6_append cX6_append 6 (some .int) ({ frames := 1, cells := 0, slots := 0, locals := 21 } : Room) [.ref (B + oMd), .int p1, .int p2, .int p3, .int p4, .int p5] σ μ ω (some (.int res.1)) σ res.2 ω := by
  refine met_X (own := "HostelBedsModel") (by decide) rfl (Nat.le_of_ble_eq_true rfl) ?_
  intro p e s m args below meth c C hrT hlk
  have hret : ∀ (pc9 : Nat) (lcs9 : List (Nat × Value)), decode cX6_append pc9 = .ok (.ireturn, 1) → narrow .int (.int res.1) = .int res.1 → X p l e ({ frames := 1, cells := 0, slots := 0, locals := 21 } : Room) s m args below meth c 6 cy D B 0 0 (MQ below (QR cy D B (some (.int res.1)) σ res.2 ω) args s 0 0 (aB B)) pc9 lcs9 [.int res.1] σ res.2 ω := fun _ _ hd hn => x_zret C hrT hlk hn hd
  generalize (MQ below (QR cy D B (some (.int res.1)) σ res.2 ω) args s 0 0 (aB B)) = Q at hret ⊢
  obtain ⟨R, hR9⟩ : ∃ R : Room, R = ({ frames := 1, cells := 0, slots := 0, locals := 21 } : Room) := ⟨_, rfl⟩
  rw [← hR9] at hret ⊢
  unfold fX6_append at h
  show X p l e R s m args below meth c 6 cy D B 0 0 Q 0 [(0, .ref (B + oMd)), (1, .int p1), (2, .int p2), (3, .int p3), (4, .int p4), (5, .int p5)] [] σ μ ω
  refine x_aload_n C dX6_append_0 rfl 0 rfl ?_
  refine x_iconst C (v := 0) dX6_append_1 (by decide) ?_
  refine x_put C (C1 := "HostelBedsModel") (T := TX6) (N := 27) (ci := 6) inXg6 tyX6 tyX6_ok nmX6 _ (c_Md) rfl 0 (by decide) (lw_g_mk tw_1131 rfl) rfl rfl rfl rfl (Nat.le_of_ble_eq_true rfl) dX6_append_2 (s_Md_thrown) ?_
  refine x_aload_n C dX6_append_5 rfl 0 rfl ?_
  refine x_get C (C1 := "HostelBedsModel") (T := TX6) (N := 27) (ci := 6) inXg6 _ (c_Md) rfl 10 (by decide) (lw_g_mk tw_1141 rfl) rfl dX6_append_6 ?_
  refine x_bipush C (v := 20) dX6_append_9 (by decide) ?_
  refine x_iadd C dX6_append_11 ?_
  refine x_sipush C (v := 700) dX6_append_12 (by decide) ?_
  refine x_icmp_le C (tgt := 24) dX6_append_15 (by decide) (fun hc1 => ?_) (fun hc1 => ?_)
  · rw [if_pos hc1] at h
    refine x_aload_n C dX6_append_24 rfl 0 rfl ?_
    refine x_iload_n C dX6_append_25 rfl 1 rfl ?_
    obtain ⟨q1, hk2, h⟩ := Option.bind_eq_some_iff.mp h
    refine x_callV C (As := [.int p1]) (rest := []) (lw_g_mk tw_1228 rfl) (lw_g_mk tsel_19 rfl) (c_Md) (C1 := "HostelBedsModel") (T := TX6) (N := 27) (ci := 6) rfl (okX6_put l cy D B ek p1 σ (wI μ 60 0 0 (0 : Int32)) ω _ hk2) rfl rfl (by rw [hR9]; decide) (lw_g_mk tw_1229 rfl) (lw_g_mk tw_7 rfl) (by decide) rfl (lw_g_mk tw_1226 rfl) rfl (Nat.le_of_ble_eq_true rfl) dX6_append_26 (by rw [hR9]; decide) ?_
    refine x_aload_n C dX6_append_29 rfl 0 rfl ?_
    refine x_iload_n C dX6_append_30 rfl 2 rfl ?_
    obtain ⟨q2, hk3, h⟩ := Option.bind_eq_some_iff.mp h
    refine x_callV C (As := [.int p2]) (rest := []) (lw_g_mk tw_1228 rfl) (lw_g_mk tsel_19 rfl) (c_Md) (C1 := "HostelBedsModel") (T := TX6) (N := 27) (ci := 6) rfl (okX6_put l cy D B ek p2 σ q1 ω _ hk3) rfl rfl (by rw [hR9]; decide) (lw_g_mk tw_1229 rfl) (lw_g_mk tw_7 rfl) (by decide) rfl (lw_g_mk tw_1226 rfl) rfl (Nat.le_of_ble_eq_true rfl) dX6_append_31 (by rw [hR9]; decide) ?_
    refine x_aload_n C dX6_append_34 rfl 0 rfl ?_
    refine x_iload_n C dX6_append_35 rfl 3 rfl ?_
    obtain ⟨q3, hk4, h⟩ := Option.bind_eq_some_iff.mp h
    refine x_callV C (As := [.int p3]) (rest := []) (lw_g_mk tw_1228 rfl) (lw_g_mk tsel_19 rfl) (c_Md) (C1 := "HostelBedsModel") (T := TX6) (N := 27) (ci := 6) rfl (okX6_put l cy D B ek p3 σ q2 ω _ hk4) rfl rfl (by rw [hR9]; decide) (lw_g_mk tw_1229 rfl) (lw_g_mk tw_7 rfl) (by decide) rfl (lw_g_mk tw_1226 rfl) rfl (Nat.le_of_ble_eq_true rfl) dX6_append_36 (by rw [hR9]; decide) ?_
    refine x_aload_n C dX6_append_39 rfl 0 rfl ?_
    refine x_iload C dX6_append_40 4 rfl ?_
    obtain ⟨q4, hk5, h⟩ := Option.bind_eq_some_iff.mp h
    refine x_callV C (As := [.int p4]) (rest := []) (lw_g_mk tw_1228 rfl) (lw_g_mk tsel_19 rfl) (c_Md) (C1 := "HostelBedsModel") (T := TX6) (N := 27) (ci := 6) rfl (okX6_put l cy D B ek p4 σ q3 ω _ hk5) rfl rfl (by rw [hR9]; decide) (lw_g_mk tw_1229 rfl) (lw_g_mk tw_7 rfl) (by decide) rfl (lw_g_mk tw_1226 rfl) rfl (Nat.le_of_ble_eq_true rfl) dX6_append_42 (by rw [hR9]; decide) ?_
    refine x_aload_n C dX6_append_45 rfl 0 rfl ?_
    refine x_iload C dX6_append_46 5 rfl ?_
    obtain ⟨q5, hk6, h⟩ := Option.bind_eq_some_iff.mp h
    refine x_callV C (As := [.int p5]) (rest := []) (lw_g_mk tw_1228 rfl) (lw_g_mk tsel_19 rfl) (c_Md) (C1 := "HostelBedsModel") (T := TX6) (N := 27) (ci := 6) rfl (okX6_put l cy D B ek p5 σ q4 ω _ hk6) rfl rfl (by rw [hR9]; decide) (lw_g_mk tw_1229 rfl) (lw_g_mk tw_7 rfl) (by decide) rfl (lw_g_mk tw_1226 rfl) rfl (Nat.le_of_ble_eq_true rfl) dX6_append_48 (by rw [hR9]; decide) ?_
    refine x_aload_n C dX6_append_51 rfl 0 rfl ?_
    refine x_get C (C1 := "HostelBedsModel") (T := TX6) (N := 27) (ci := 6) inXg6 _ (c_Md) rfl 10 (by decide) (lw_g_mk tw_1141 rfl) rfl dX6_append_52 ?_
    cases h
    exact hret _ _ dX6_append_55 rfl
  · rw [if_neg hc1] at h
    refine x_aload_n C dX6_append_18 rfl 0 rfl ?_
    refine x_iconst C (v := 1) dX6_append_19 (by decide) ?_
    obtain ⟨q6, hk7, h⟩ := Option.bind_eq_some_iff.mp h
    refine x_callV C (As := [.int (1 : Int32)]) (rest := []) (lw_g_mk tw_1224 rfl) (lw_g_mk tsel_18 rfl) (c_Md) (C1 := "HostelBedsModel") (T := TX6) (N := 27) (ci := 6) rfl (okX6_fails l cy D B ek (1 : Int32) σ (wI μ 60 0 0 (0 : Int32)) ω _ hk7) rfl rfl (by rw [hR9]; decide) (lw_g_mk tw_1225 rfl) (lw_g_mk tw_7 rfl) (by decide) rfl (lw_g_mk tw_1222 rfl) rfl (Nat.le_of_ble_eq_true rfl) dX6_append_20 (by rw [hR9]; decide) ?_
    cases h
    exact hret _ _ dX6_append_23 rfl
def fX6_truncate (p1 : Int32) (μ : Mem) : Option (Mem) := ((fX6_isIn p1 (0 : Int32) (rI (wI μ 60 0 0 (0 : Int32)) 66 0 0)).bind fun q1 => (if ¬ q1 = 0 then (some (wI (wI μ 60 0 0 (0 : Int32)) 66 0 0 p1)) else (some (wI (wI μ 60 0 0 (0 : Int32)) 60 0 0 (1 : Int32)))))
set_option maxHeartbeats 4000000 in
set_option maxRecDepth 100000 in
theorem okX6_truncate (l : Launch) (cy : Nat → ClassId) (D : va_G) (B : Nat) (ek : EK) (p1 : Int32) (σ μ ω : Mem) (res : Mem) (h : fX6_truncate p1 μ = some res) : CT l cy D B ek yX6_truncate cX6_truncate 2 none ({ frames := 1, cells := 0, slots := 0, locals := 22 } : Room) [.ref (B + oMd), .int p1] σ μ ω none σ res ω := by
  refine met_X (own := "HostelBedsModel") (by decide) rfl (Nat.le_of_ble_eq_true rfl) ?_
  intro p e s m args below meth c C hrT hlk
  have hret : ∀ (pc9 : Nat) (lcs9 : List (Nat × Value)), decode cX6_truncate pc9 = .ok (.return_, 1) → X p l e ({ frames := 1, cells := 0, slots := 0, locals := 22 } : Room) s m args below meth c 2 cy D B 0 0 (MQ below (QR cy D B none σ res ω) args s 0 0 (aB B)) pc9 lcs9 [] σ res ω := fun _ _ hd => x_vret C hrT hlk hd
  generalize (MQ below (QR cy D B none σ res ω) args s 0 0 (aB B)) = Q at hret ⊢
  obtain ⟨R, hR9⟩ : ∃ R : Room, R = ({ frames := 1, cells := 0, slots := 0, locals := 22 } : Room) := ⟨_, rfl⟩
  rw [← hR9] at hret ⊢
  unfold fX6_truncate at h
  show X p l e R s m args below meth c 2 cy D B 0 0 Q 0 [(0, .ref (B + oMd)), (1, .int p1)] [] σ μ ω
  refine x_aload_n C dX6_truncate_0 rfl 0 rfl ?_
  refine x_iconst C (v := 0) dX6_truncate_1 (by decide) ?_
  refine x_put C (C1 := "HostelBedsModel") (T := TX6) (N := 27) (ci := 6) inXg6 tyX6 tyX6_ok nmX6 _ (c_Md) rfl 0 (by decide) (lw_g_mk tw_1131 rfl) rfl rfl rfl rfl (Nat.le_of_ble_eq_true rfl) dX6_truncate_2 (s_Md_thrown) ?_
  refine x_iload_n C dX6_truncate_5 rfl 1 rfl ?_
  refine x_iconst C (v := 0) dX6_truncate_6 (by decide) ?_
  refine x_aload_n C dX6_truncate_7 rfl 0 rfl ?_
  refine x_get C (C1 := "HostelBedsModel") (T := TX6) (N := 27) (ci := 6) inXg6 _ (c_Md) rfl 10 (by decide) (lw_g_mk tw_1141 rfl) rfl dX6_truncate_8 ?_
  obtain ⟨q1, hk1, h⟩ := Option.bind_eq_some_iff.mp h
  refine x_callS C (As := [.int p1, .int (0 : Int32), .int (rI (wI μ 60 0 0 (0 : Int32)) 66 0 0)]) (rest := []) (lw_g_mk tw_1235 rfl) (okX6_isIn l cy D B ek p1 (0 : Int32) (rI (wI μ 60 0 0 (0 : Int32)) 66 0 0) σ (wI μ 60 0 0 (0 : Int32)) ω _ hk1) rfl rfl (by rw [hR9]; decide) (lw_g_mk tw_1236 rfl) (lw_g_mk tw_7 rfl) (by decide) rfl (lw_g_mk tw_1234 rfl) rfl (Nat.le_of_ble_eq_true rfl) dX6_truncate_11 (by rw [hR9]; decide) ?_
  refine x_if_ne C (tgt := 23) dX6_truncate_14 (by decide) (fun hc2 => ?_) (fun hc2 => ?_)
  · rw [if_pos hc2] at h
    refine x_aload_n C dX6_truncate_23 rfl 0 rfl ?_
    refine x_iload_n C dX6_truncate_24 rfl 1 rfl ?_
    refine x_put C (C1 := "HostelBedsModel") (T := TX6) (N := 27) (ci := 6) inXg6 tyX6 tyX6_ok nmX6 _ (c_Md) rfl 10 (by decide) (lw_g_mk tw_1141 rfl) rfl rfl rfl rfl (Nat.le_of_ble_eq_true rfl) dX6_truncate_25 (s_Md_buffered) ?_
    cases h
    exact hret _ _ dX6_truncate_28
  · rw [if_neg hc2] at h
    refine x_aload_n C dX6_truncate_17 rfl 0 rfl ?_
    refine x_iconst C (v := 1) dX6_truncate_18 (by decide) ?_
    refine x_put C (C1 := "HostelBedsModel") (T := TX6) (N := 27) (ci := 6) inXg6 tyX6 tyX6_ok nmX6 _ (c_Md) rfl 0 (by decide) (lw_g_mk tw_1131 rfl) rfl rfl rfl rfl (Nat.le_of_ble_eq_true rfl) dX6_truncate_19 (s_Md_thrown) ?_
    cases h
    exact hret _ _ dX6_truncate_22
def fX6_byteAt (p1 : Int32) (μ : Mem) : Option (Int32) := (if (rI μ 70 0 0) ≤ p1 then (some ((0 : Int32))) else (gd (inb p1 700) (some (rI μ 65 0 p1.toNatClampNeg))))
set_option maxHeartbeats 4000000 in
set_option maxRecDepth 100000 in
theorem okX6_byteAt (l : Launch) (cy : Nat → ClassId) (D : va_G) (B : Nat) (ek : EK) (p1 : Int32) (σ μ ω : Mem) (res : Int32) (h : fX6_byteAt p1 μ = some res) : CT l cy D B ek yX6_byteAt cX6_byteAt 2 (some .int) ({ frames := 0, cells := 0, slots := 0, locals := 0 } : Room) [.ref (B + oMd), .int p1] σ μ ω (some (.int res)) σ μ ω := by
  refine met_X (own := "HostelBedsModel") (by decide) rfl (Nat.le_of_ble_eq_true rfl) ?_
  intro p e s m args below meth c C hrT hlk
  have hret : ∀ (pc9 : Nat) (lcs9 : List (Nat × Value)), decode cX6_byteAt pc9 = .ok (.ireturn, 1) → narrow .int (.int res) = .int res → X p l e ({ frames := 0, cells := 0, slots := 0, locals := 0 } : Room) s m args below meth c 2 cy D B 0 0 (MQ below (QR cy D B (some (.int res)) σ μ ω) args s 0 0 (aB B)) pc9 lcs9 [.int res] σ μ ω := fun _ _ hd hn => x_zret C hrT hlk hn hd
  generalize (MQ below (QR cy D B (some (.int res)) σ μ ω) args s 0 0 (aB B)) = Q at hret ⊢
  obtain ⟨R, hR9⟩ : ∃ R : Room, R = ({ frames := 0, cells := 0, slots := 0, locals := 0 } : Room) := ⟨_, rfl⟩
  rw [← hR9] at hret ⊢
  unfold fX6_byteAt at h
  show X p l e R s m args below meth c 2 cy D B 0 0 Q 0 [(0, .ref (B + oMd)), (1, .int p1)] [] σ μ ω
  refine x_iload_n C dX6_byteAt_0 rfl 1 rfl ?_
  refine x_aload_n C dX6_byteAt_1 rfl 0 rfl ?_
  refine x_get C (C1 := "HostelBedsModel") (T := TX6) (N := 27) (ci := 6) inXg6 _ (c_Md) rfl 14 (by decide) (lw_g_mk tw_1145 rfl) rfl dX6_byteAt_2 ?_
  refine x_icmp_ge C (tgt := 17) dX6_byteAt_5 (by decide) (fun hc1 => ?_) (fun hc1 => ?_)
  · rw [if_pos hc1] at h
    refine x_iconst C (v := 0) dX6_byteAt_17 (by decide) ?_
    cases h
    exact hret _ _ dX6_byteAt_18 rfl
  · rw [if_neg hc1] at h
    refine x_aload_n C dX6_byteAt_8 rfl 0 rfl ?_
    refine x_get C (C1 := "HostelBedsModel") (T := TX6) (N := 27) (ci := 6) inXg6 _ (c_Md) rfl 9 (by decide) (lw_g_mk tw_1140 rfl) rfl dX6_byteAt_9 ?_
    refine x_iload_n C dX6_byteAt_12 rfl 1 rfl ?_
    obtain ⟨hg2, h⟩ := gd_some h
    refine x_bald C _ (c_Buf) hg2 dX6_byteAt_13 ?_
    refine x_goto C (tgt := 18) dX6_byteAt_14 (by decide) ?_
    cases h
    exact hret _ _ dX6_byteAt_18 rfl
def fX6_isLetter (p1 : Int32) (μ : Mem) : Option (Int32) := ((fX6_byteAt p1 μ).bind fun q1 => ((fX6_isIn q1 (97 : Int32) (122 : Int32)).bind fun q2 => (gd (q2 = 0 ∨ q2 = 1) (some q2))))
set_option maxHeartbeats 4000000 in
set_option maxRecDepth 100000 in
theorem okX6_isLetter (l : Launch) (cy : Nat → ClassId) (D : va_G) (B : Nat) (ek : EK) (p1 : Int32) (σ μ ω : Mem) (res : Int32) (h : fX6_isLetter p1 μ = some res) : CT l cy D B ek yX6_isLetter cX6_isLetter 2 (some .boolean) ({ frames := 1, cells := 0, slots := 0, locals := 22 } : Room) [.ref (B + oMd), .int p1] σ μ ω (some (.int res)) σ μ ω := by
  refine met_X (own := "HostelBedsModel") (by decide) rfl (Nat.le_of_ble_eq_true rfl) ?_
  intro p e s m args below meth c C hrT hlk
  have hret : ∀ (pc9 : Nat) (lcs9 : List (Nat × Value)), decode cX6_isLetter pc9 = .ok (.ireturn, 1) → narrow .boolean (.int res) = .int res → X p l e ({ frames := 1, cells := 0, slots := 0, locals := 22 } : Room) s m args below meth c 2 cy D B 0 0 (MQ below (QR cy D B (some (.int res)) σ μ ω) args s 0 0 (aB B)) pc9 lcs9 [.int res] σ μ ω := fun _ _ hd hn => x_zret C hrT hlk hn hd
  generalize (MQ below (QR cy D B (some (.int res)) σ μ ω) args s 0 0 (aB B)) = Q at hret ⊢
  obtain ⟨R, hR9⟩ : ∃ R : Room, R = ({ frames := 1, cells := 0, slots := 0, locals := 22 } : Room) := ⟨_, rfl⟩
  rw [← hR9] at hret ⊢
  unfold fX6_isLetter at h
  show X p l e R s m args below meth c 2 cy D B 0 0 Q 0 [(0, .ref (B + oMd)), (1, .int p1)] [] σ μ ω
  refine x_aload_n C dX6_isLetter_0 rfl 0 rfl ?_
  refine x_iload_n C dX6_isLetter_1 rfl 1 rfl ?_
  obtain ⟨q1, hk1, h⟩ := Option.bind_eq_some_iff.mp h
  refine x_callV C (As := [.int p1]) (rest := []) (lw_g_mk tw_1251 rfl) (lw_g_mk tsel_22 rfl) (c_Md) (C1 := "HostelBedsModel") (T := TX6) (N := 27) (ci := 6) rfl (okX6_byteAt l cy D B ek p1 σ μ ω _ hk1) rfl rfl (by rw [hR9]; decide) (lw_g_mk tw_1252 rfl) (lw_g_mk tw_7 rfl) (by decide) rfl (lw_g_mk tw_1249 rfl) rfl (Nat.le_of_ble_eq_true rfl) dX6_isLetter_2 (by rw [hR9]; decide) ?_
  refine x_bipush C (v := 97) dX6_isLetter_5 (by decide) ?_
  refine x_bipush C (v := 122) dX6_isLetter_7 (by decide) ?_
  obtain ⟨q2, hk2, h⟩ := Option.bind_eq_some_iff.mp h
  refine x_callS C (As := [.int q1, .int (97 : Int32), .int (122 : Int32)]) (rest := []) (lw_g_mk tw_1235 rfl) (okX6_isIn l cy D B ek q1 (97 : Int32) (122 : Int32) σ μ ω _ hk2) rfl rfl (by rw [hR9]; decide) (lw_g_mk tw_1236 rfl) (lw_g_mk tw_7 rfl) (by decide) rfl (lw_g_mk tw_1234 rfl) rfl (Nat.le_of_ble_eq_true rfl) dX6_isLetter_9 (by rw [hR9]; decide) ?_
  obtain ⟨hg3, h⟩ := gd_some h
  cases h
  exact hret _ _ dX6_isLetter_12 (nar_Z hg3)
def fX6_isDigit (p1 : Int32) (μ : Mem) : Option (Int32) := ((fX6_byteAt p1 μ).bind fun q1 => ((fX6_isIn q1 (48 : Int32) (57 : Int32)).bind fun q2 => (gd (q2 = 0 ∨ q2 = 1) (some q2))))
set_option maxHeartbeats 4000000 in
set_option maxRecDepth 100000 in
theorem okX6_isDigit (l : Launch) (cy : Nat → ClassId) (D : va_G) (B : Nat) (ek : EK) (p1 : Int32) (σ μ ω : Mem) (res : Int32) (h : fX6_isDigit p1 μ = some res) : CT l cy D B ek yX6_isDigit cX6_isDigit 2 (some .boolean) ({ frames := 1, cells := 0, slots := 0, locals := 22 } : Room) [.ref (B + oMd), .int p1] σ μ ω (some (.int res)) σ μ ω := by
  refine met_X (own := "HostelBedsModel") (by decide) rfl (Nat.le_of_ble_eq_true rfl) ?_
  intro p e s m args below meth c C hrT hlk
  have hret : ∀ (pc9 : Nat) (lcs9 : List (Nat × Value)), decode cX6_isDigit pc9 = .ok (.ireturn, 1) → narrow .boolean (.int res) = .int res → X p l e ({ frames := 1, cells := 0, slots := 0, locals := 22 } : Room) s m args below meth c 2 cy D B 0 0 (MQ below (QR cy D B (some (.int res)) σ μ ω) args s 0 0 (aB B)) pc9 lcs9 [.int res] σ μ ω := fun _ _ hd hn => x_zret C hrT hlk hn hd
  generalize (MQ below (QR cy D B (some (.int res)) σ μ ω) args s 0 0 (aB B)) = Q at hret ⊢
  obtain ⟨R, hR9⟩ : ∃ R : Room, R = ({ frames := 1, cells := 0, slots := 0, locals := 22 } : Room) := ⟨_, rfl⟩
  rw [← hR9] at hret ⊢
  unfold fX6_isDigit at h
  show X p l e R s m args below meth c 2 cy D B 0 0 Q 0 [(0, .ref (B + oMd)), (1, .int p1)] [] σ μ ω
  refine x_aload_n C dX6_isDigit_0 rfl 0 rfl ?_
  refine x_iload_n C dX6_isDigit_1 rfl 1 rfl ?_
  obtain ⟨q1, hk1, h⟩ := Option.bind_eq_some_iff.mp h
  refine x_callV C (As := [.int p1]) (rest := []) (lw_g_mk tw_1251 rfl) (lw_g_mk tsel_22 rfl) (c_Md) (C1 := "HostelBedsModel") (T := TX6) (N := 27) (ci := 6) rfl (okX6_byteAt l cy D B ek p1 σ μ ω _ hk1) rfl rfl (by rw [hR9]; decide) (lw_g_mk tw_1252 rfl) (lw_g_mk tw_7 rfl) (by decide) rfl (lw_g_mk tw_1249 rfl) rfl (Nat.le_of_ble_eq_true rfl) dX6_isDigit_2 (by rw [hR9]; decide) ?_
  refine x_bipush C (v := 48) dX6_isDigit_5 (by decide) ?_
  refine x_bipush C (v := 57) dX6_isDigit_7 (by decide) ?_
  obtain ⟨q2, hk2, h⟩ := Option.bind_eq_some_iff.mp h
  refine x_callS C (As := [.int q1, .int (48 : Int32), .int (57 : Int32)]) (rest := []) (lw_g_mk tw_1235 rfl) (okX6_isIn l cy D B ek q1 (48 : Int32) (57 : Int32) σ μ ω _ hk2) rfl rfl (by rw [hR9]; decide) (lw_g_mk tw_1236 rfl) (lw_g_mk tw_7 rfl) (by decide) rfl (lw_g_mk tw_1234 rfl) rfl (Nat.le_of_ble_eq_true rfl) dX6_isDigit_9 (by rw [hR9]; decide) ?_
  obtain ⟨hg3, h⟩ := gd_some h
  cases h
  exact hret _ _ dX6_isDigit_12 (nar_Z hg3)
def jX6_isBlank_20 : Option (Int32) := (some ((1 : Int32)))
def fX6_isBlank (p1 : Int32) (μ : Mem) : Option (Int32) := ((fX6_byteAt p1 μ).bind fun q1 => (if q1 = (32 : Int32) then (jX6_isBlank_20) else ((fX6_byteAt p1 μ).bind fun q2 => (if ¬ q2 = (10 : Int32) then (some ((0 : Int32))) else (jX6_isBlank_20)))))
set_option maxHeartbeats 4000000 in
set_option maxRecDepth 100000 in
theorem okX6_isBlank (l : Launch) (cy : Nat → ClassId) (D : va_G) (B : Nat) (ek : EK) (p1 : Int32) (σ μ ω : Mem) (res : Int32) (h : fX6_isBlank p1 μ = some res) : CT l cy D B ek yX6_isBlank cX6_isBlank 2 (some .boolean) ({ frames := 1, cells := 0, slots := 0, locals := 21 } : Room) [.ref (B + oMd), .int p1] σ μ ω (some (.int res)) σ μ ω := by
  refine met_X (own := "HostelBedsModel") (by decide) rfl (Nat.le_of_ble_eq_true rfl) ?_
  intro p e s m args below meth c C hrT hlk
  have hret : ∀ (pc9 : Nat) (lcs9 : List (Nat × Value)), decode cX6_isBlank pc9 = .ok (.ireturn, 1) → narrow .boolean (.int res) = .int res → X p l e ({ frames := 1, cells := 0, slots := 0, locals := 21 } : Room) s m args below meth c 2 cy D B 0 0 (MQ below (QR cy D B (some (.int res)) σ μ ω) args s 0 0 (aB B)) pc9 lcs9 [.int res] σ μ ω := fun _ _ hd hn => x_zret C hrT hlk hn hd
  generalize (MQ below (QR cy D B (some (.int res)) σ μ ω) args s 0 0 (aB B)) = Q at hret ⊢
  obtain ⟨R, hR9⟩ : ∃ R : Room, R = ({ frames := 1, cells := 0, slots := 0, locals := 21 } : Room) := ⟨_, rfl⟩
  rw [← hR9] at hret ⊢
  unfold fX6_isBlank at h
  show X p l e R s m args below meth c 2 cy D B 0 0 Q 0 [(0, .ref (B + oMd)), (1, .int p1)] [] σ μ ω
  refine x_aload_n C dX6_isBlank_0 rfl 0 rfl ?_
  refine x_iload_n C dX6_isBlank_1 rfl 1 rfl ?_
  obtain ⟨q1, hk1, h⟩ := Option.bind_eq_some_iff.mp h
  refine x_callV C (As := [.int p1]) (rest := []) (lw_g_mk tw_1251 rfl) (lw_g_mk tsel_22 rfl) (c_Md) (C1 := "HostelBedsModel") (T := TX6) (N := 27) (ci := 6) rfl (okX6_byteAt l cy D B ek p1 σ μ ω _ hk1) rfl rfl (by rw [hR9]; decide) (lw_g_mk tw_1252 rfl) (lw_g_mk tw_7 rfl) (by decide) rfl (lw_g_mk tw_1249 rfl) rfl (Nat.le_of_ble_eq_true rfl) dX6_isBlank_2 (by rw [hR9]; decide) ?_
  refine x_bipush C (v := 32) dX6_isBlank_5 (by decide) ?_
  have hJ2 : ∀ (r9 : Int32), jX6_isBlank_20 = some r9 → (∀ (pc9 : Nat) (lcs9 : List (Nat × Value)), decode cX6_isBlank pc9 = .ok (.ireturn, 1) → narrow .boolean (.int r9) = .int r9 → X p l e R s m args below meth c 2 cy D B 0 0 Q pc9 lcs9 [.int r9] σ μ ω) → X p l e R s m args below meth c 2 cy D B 0 0 Q 20 [] [] σ μ ω := by
    intro res9 h hret
    unfold jX6_isBlank_20 at h
    refine x_iconst C (v := 1) dX6_isBlank_20 (by decide) ?_
    refine x_goto C (tgt := 25) dX6_isBlank_21 (by decide) ?_
    cases h
    exact hret _ _ dX6_isBlank_25 (nar_Z (Or.inr rfl))
  refine x_icmp_eq C (tgt := 20) dX6_isBlank_7 (by decide) (fun hc3 => ?_) (fun hc3 => ?_)
  · rw [if_pos hc3] at h
    refine x_sub [] rfl ?_
    exact hJ2 _ h hret
  · rw [if_neg hc3] at h
    refine x_aload_n C dX6_isBlank_10 rfl 0 rfl ?_
    refine x_iload_n C dX6_isBlank_11 rfl 1 rfl ?_
    obtain ⟨q2, hk4, h⟩ := Option.bind_eq_some_iff.mp h
    refine x_callV C (As := [.int p1]) (rest := []) (lw_g_mk tw_1251 rfl) (lw_g_mk tsel_22 rfl) (c_Md) (C1 := "HostelBedsModel") (T := TX6) (N := 27) (ci := 6) rfl (okX6_byteAt l cy D B ek p1 σ μ ω _ hk4) rfl rfl (by rw [hR9]; decide) (lw_g_mk tw_1252 rfl) (lw_g_mk tw_7 rfl) (by decide) rfl (lw_g_mk tw_1249 rfl) rfl (Nat.le_of_ble_eq_true rfl) dX6_isBlank_12 (by rw [hR9]; decide) ?_
    refine x_bipush C (v := 10) dX6_isBlank_15 (by decide) ?_
    refine x_icmp_ne C (tgt := 24) dX6_isBlank_17 (by decide) (fun hc5 => ?_) (fun hc5 => ?_)
    · rw [if_pos hc5] at h
      refine x_iconst C (v := 0) dX6_isBlank_24 (by decide) ?_
      cases h
      exact hret _ _ dX6_isBlank_25 (nar_Z (Or.inl rfl))
    · rw [if_neg hc5] at h
      refine x_sub [] rfl ?_
      exact hJ2 _ h hret
def jX6_readWord_52 (a7 : Int32 × Mem) (μ2 : Mem) : Option ((Int32 × Mem) ⊕ (Int32 × Mem)) := (some (.inl (a7.1 + (1 : Int32), wI μ2 71 0 0 ((rI μ2 71 0 0) + (1 : Int32)))))
def stX6_readWord_7 (a7 : Int32 × Mem) : Option ((Int32 × Mem) ⊕ (Int32 × Mem)) := ((fX6_isLetter (rI a7.2 71 0 0) a7.2).bind fun q1 => (if q1 = 0 then (some (.inr (a7.1, a7.2))) else (if (8 : Int32) ≤ a7.1 then (jX6_readWord_52 a7 a7.2) else ((fX6_byteAt (rI a7.2 71 0 0) a7.2).bind fun q3 => (jX6_readWord_52 a7 (wJ a7.2 10 0 0 (((((32 : Int64) * (rJ a7.2 10 0 0)) + q3.toInt64) - (97 : Int64)) + (1 : Int64))))))))
def fX6_readWord (μ : Mem) : Option (Mem) := ((loop (stX6_readWord_7) 5000 ((0 : Int32), wJ μ 10 0 0 (0 : Int64))).bind fun b7 => (if b7.1 ≤ (8 : Int32) then (some (wI b7.2 73 0 0 (1 : Int32))) else (some (wI b7.2 73 0 0 (4 : Int32)))))
set_option maxHeartbeats 4000000 in
set_option maxRecDepth 100000 in
theorem okX6_readWord (l : Launch) (cy : Nat → ClassId) (D : va_G) (B : Nat) (ek : EK) (σ μ ω : Mem) (res : Mem) (h : fX6_readWord μ = some res) : CT l cy D B ek yX6_readWord cX6_readWord 2 none ({ frames := 2, cells := 0, slots := 0, locals := 43 } : Room) [.ref (B + oMd)] σ μ ω none σ res ω := by
  refine met_X (own := "HostelBedsModel") (by decide) rfl (Nat.le_of_ble_eq_true rfl) ?_
  intro p e s m args below meth c C hrT hlk
  have hret : ∀ (pc9 : Nat) (lcs9 : List (Nat × Value)), decode cX6_readWord pc9 = .ok (.return_, 1) → X p l e ({ frames := 2, cells := 0, slots := 0, locals := 43 } : Room) s m args below meth c 2 cy D B 0 0 (MQ below (QR cy D B none σ res ω) args s 0 0 (aB B)) pc9 lcs9 [] σ res ω := fun _ _ hd => x_vret C hrT hlk hd
  generalize (MQ below (QR cy D B none σ res ω) args s 0 0 (aB B)) = Q at hret ⊢
  obtain ⟨R, hR9⟩ : ∃ R : Room, R = ({ frames := 2, cells := 0, slots := 0, locals := 43 } : Room) := ⟨_, rfl⟩
  rw [← hR9] at hret ⊢
  unfold fX6_readWord at h
  show X p l e R s m args below meth c 2 cy D B 0 0 Q 0 [(0, .ref (B + oMd))] [] σ μ ω
  refine x_aload_n C dX6_readWord_0 rfl 0 rfl ?_
  refine x_lconst C (v := 0) dX6_readWord_1 (by decide) ?_
  refine x_put C (C1 := "HostelBedsModel") (T := TX6) (N := 27) (ci := 6) inXg6 tyX6 tyX6_ok nmX6 _ (c_Md) rfl 19 (by decide) (lw_g_mk tw_1150 rfl) rfl rfl rfl rfl (Nat.le_of_ble_eq_true rfl) dX6_readWord_2 (s_Md_word) ?_
  refine x_iconst C (v := 0) dX6_readWord_5 (by decide) ?_
  refine x_istore_n C [(1, .int (0 : Int32)), (0, .ref (B + oMd))] dX6_readWord_6 rfl (by decide) rfl ?_
  obtain ⟨b7, hk8, h⟩ := Option.bind_eq_some_iff.mp h
  refine x_sub [1, 0] rfl ?_
  refine loop_run (step := stX6_readWord_7) (P := fun (a7 : Int32 × Mem) => X p l e R s m args below meth c 2 cy D B 0 0 Q 7 [(0, .ref (B + oMd)), (1, .int a7.1)] [] σ a7.2 ω) (K := fun (b7 : Int32 × Mem) => X p l e R s m args below meth c 2 cy D B 0 0 Q 68 [(0, .ref (B + oMd)), (1, .int b7.1)] [] σ b7.2 ω) ?_ 5000 ((0 : Int32), wJ μ 10 0 0 (0 : Int64)) b7 hk8 ?_
  · intro a7 r h hA1 hB2
    unfold stX6_readWord_7 at h
    refine x_aload_n C dX6_readWord_7 rfl 0 rfl ?_
    refine x_aload_n C dX6_readWord_8 rfl 0 rfl ?_
    refine x_get C (C1 := "HostelBedsModel") (T := TX6) (N := 27) (ci := 6) inXg6 _ (c_Md) rfl 15 (by decide) (lw_g_mk tw_1146 rfl) rfl dX6_readWord_9 ?_
    obtain ⟨q1, hk3, h⟩ := Option.bind_eq_some_iff.mp h
    refine x_callV C (As := [.int (rI a7.2 71 0 0)]) (rest := []) (lw_g_mk tw_1255 rfl) (lw_g_mk tsel_23 rfl) (c_Md) (C1 := "HostelBedsModel") (T := TX6) (N := 27) (ci := 6) rfl (okX6_isLetter l cy D B ek (rI a7.2 71 0 0) σ a7.2 ω _ hk3) rfl rfl (by rw [hR9]; decide) (lw_g_mk tw_1256 rfl) (lw_g_mk tw_7 rfl) (by decide) rfl (lw_g_mk tw_1253 rfl) rfl (Nat.le_of_ble_eq_true rfl) dX6_readWord_12 (by rw [hR9]; decide) ?_
    refine x_if_eq C (tgt := 68) dX6_readWord_15 (by decide) (fun hc4 => ?_) (fun hc4 => ?_)
    · rw [if_pos hc4] at h
      cases h
      exact hB2 (a7.1, a7.2) rfl
    · rw [if_neg hc4] at h
      refine x_iload_n C dX6_readWord_18 rfl 1 rfl ?_
      refine x_bipush C (v := 8) dX6_readWord_19 (by decide) ?_
      have hJ5 : ∀ (μ2 : Mem) (r9 : (Int32 × Mem) ⊕ (Int32 × Mem)), jX6_readWord_52 a7 μ2 = some r9 → (∀ a2, r9 = .inl a2 → (fun (a7 : Int32 × Mem) => X p l e R s m args below meth c 2 cy D B 0 0 Q 7 [(0, .ref (B + oMd)), (1, .int a7.1)] [] σ a7.2 ω) a2) → (∀ b2, r9 = .inr b2 → (fun (b7 : Int32 × Mem) => X p l e R s m args below meth c 2 cy D B 0 0 Q 68 [(0, .ref (B + oMd)), (1, .int b7.1)] [] σ b7.2 ω) b2) → X p l e R s m args below meth c 2 cy D B 0 0 Q 52 [(0, .ref (B + oMd)), (1, .int a7.1)] [] σ μ2 ω := by
        intro μ2 r h hA1 hB2
        unfold jX6_readWord_52 at h
        refine x_iinc C (k := 1) [(1, .int (a7.1 + (1 : Int32))), (0, .ref (B + oMd))] dX6_readWord_52 rfl rfl (by decide) rfl ?_
        refine x_aload_n C dX6_readWord_55 rfl 1 rfl ?_
        refine x_dup C dX6_readWord_56 rfl ?_
        refine x_get C (C1 := "HostelBedsModel") (T := TX6) (N := 27) (ci := 6) inXg6 _ (c_Md) rfl 15 (by decide) (lw_g_mk tw_1146 rfl) rfl dX6_readWord_57 ?_
        refine x_iconst C (v := 1) dX6_readWord_60 (by decide) ?_
        refine x_iadd C dX6_readWord_61 ?_
        refine x_put C (C1 := "HostelBedsModel") (T := TX6) (N := 27) (ci := 6) inXg6 tyX6 tyX6_ok nmX6 _ (c_Md) rfl 15 (by decide) (lw_g_mk tw_1146 rfl) rfl rfl rfl rfl (Nat.le_of_ble_eq_true rfl) dX6_readWord_62 (s_Md_next) ?_
        refine x_goto C (tgt := 7) dX6_readWord_65 (by decide) ?_
        cases h
        refine x_sub [1, 0] rfl ?_
        exact hA1 (a7.1 + (1 : Int32), wI μ2 71 0 0 ((rI μ2 71 0 0) + (1 : Int32))) rfl
      refine x_icmp_ge C (tgt := 52) dX6_readWord_21 (by decide) (fun hc6 => ?_) (fun hc6 => ?_)
      · rw [if_pos hc6] at h
        exact hJ5 a7.2 _ h hA1 hB2
      · rw [if_neg hc6] at h
        refine x_aload_n C dX6_readWord_24 rfl 0 rfl ?_
        refine x_ldc2 C (v := 32) (lw_g_mk tw_1261 rfl) dX6_readWord_25 ?_
        refine x_aload_n C dX6_readWord_28 rfl 0 rfl ?_
        refine x_get C (C1 := "HostelBedsModel") (T := TX6) (N := 27) (ci := 6) inXg6 _ (c_Md) rfl 19 (by decide) (lw_g_mk tw_1150 rfl) rfl dX6_readWord_29 ?_
        refine x_lmul C dX6_readWord_32 ?_
        refine x_aload_n C dX6_readWord_33 rfl 0 rfl ?_
        refine x_aload_n C dX6_readWord_34 rfl 0 rfl ?_
        refine x_get C (C1 := "HostelBedsModel") (T := TX6) (N := 27) (ci := 6) inXg6 _ (c_Md) rfl 15 (by decide) (lw_g_mk tw_1146 rfl) rfl dX6_readWord_35 ?_
        obtain ⟨q3, hk7, h⟩ := Option.bind_eq_some_iff.mp h
        refine x_callV C (As := [.int (rI a7.2 71 0 0)]) (rest := [.long ((32 : Int64) * (rJ a7.2 10 0 0)), .ref (B + oMd)]) (lw_g_mk tw_1251 rfl) (lw_g_mk tsel_22 rfl) (c_Md) (C1 := "HostelBedsModel") (T := TX6) (N := 27) (ci := 6) rfl (okX6_byteAt l cy D B ek (rI a7.2 71 0 0) σ a7.2 ω _ hk7) rfl rfl (by rw [hR9]; decide) (lw_g_mk tw_1252 rfl) (lw_g_mk tw_7 rfl) (by decide) rfl (lw_g_mk tw_1249 rfl) rfl (Nat.le_of_ble_eq_true rfl) dX6_readWord_38 (by rw [hR9]; decide) ?_
        refine x_i2l C dX6_readWord_41 ?_
        refine x_ladd C dX6_readWord_42 ?_
        refine x_ldc2 C (v := 97) (lw_g_mk tw_1262 rfl) dX6_readWord_43 ?_
        refine x_lsub C dX6_readWord_46 ?_
        refine x_lconst C (v := 1) dX6_readWord_47 (by decide) ?_
        refine x_ladd C dX6_readWord_48 ?_
        refine x_put C (C1 := "HostelBedsModel") (T := TX6) (N := 27) (ci := 6) inXg6 tyX6 tyX6_ok nmX6 _ (c_Md) rfl 19 (by decide) (lw_g_mk tw_1150 rfl) rfl rfl rfl rfl (Nat.le_of_ble_eq_true rfl) dX6_readWord_49 (s_Md_word) ?_
        exact hJ5 (wJ a7.2 10 0 0 (((((32 : Int64) * (rJ a7.2 10 0 0)) + q3.toInt64) - (97 : Int64)) + (1 : Int64))) _ h hA1 hB2
  · show X p l e R s m args below meth c 2 cy D B 0 0 Q 68 [(0, .ref (B + oMd)), (1, .int b7.1)] [] σ b7.2 ω
    refine x_aload_n C dX6_readWord_68 rfl 0 rfl ?_
    refine x_iload_n C dX6_readWord_69 rfl 1 rfl ?_
    refine x_bipush C (v := 8) dX6_readWord_70 (by decide) ?_
    refine x_icmp_le C (tgt := 79) dX6_readWord_72 (by decide) (fun hc9 => ?_) (fun hc9 => ?_)
    · rw [if_pos hc9] at h
      refine x_iconst C (v := 1) dX6_readWord_79 (by decide) ?_
      refine x_put C (C1 := "HostelBedsModel") (T := TX6) (N := 27) (ci := 6) inXg6 tyX6 tyX6_ok nmX6 _ (c_Md) rfl 17 (by decide) (lw_g_mk tw_1148 rfl) rfl rfl rfl rfl (Nat.le_of_ble_eq_true rfl) dX6_readWord_80 (s_Md_token) ?_
      cases h
      exact hret _ _ dX6_readWord_83
    · rw [if_neg hc9] at h
      refine x_iconst C (v := 4) dX6_readWord_75 (by decide) ?_
      refine x_goto C (tgt := 80) dX6_readWord_76 (by decide) ?_
      refine x_put C (C1 := "HostelBedsModel") (T := TX6) (N := 27) (ci := 6) inXg6 tyX6 tyX6_ok nmX6 _ (c_Md) rfl 17 (by decide) (lw_g_mk tw_1148 rfl) rfl rfl rfl rfl (Nat.le_of_ble_eq_true rfl) dX6_readWord_80 (s_Md_token) ?_
      cases h
      exact hret _ _ dX6_readWord_83
def jX6_readNumber_46 (a7 : Int32 × Mem) (μ2 : Mem) : Option ((Int32 × Mem) ⊕ (Int32 × Mem)) := (some (.inl (a7.1 + (1 : Int32), wI μ2 71 0 0 ((rI μ2 71 0 0) + (1 : Int32)))))
def stX6_readNumber_7 (a7 : Int32 × Mem) : Option ((Int32 × Mem) ⊕ (Int32 × Mem)) := ((fX6_isDigit (rI a7.2 71 0 0) a7.2).bind fun q1 => (if q1 = 0 then (some (.inr (a7.1, a7.2))) else (if (3 : Int32) ≤ a7.1 then (jX6_readNumber_46 a7 a7.2) else ((fX6_byteAt (rI a7.2 71 0 0) a7.2).bind fun q3 => (jX6_readNumber_46 a7 (wI a7.2 74 0 0 ((((10 : Int32) * (rI a7.2 74 0 0)) + q3) - (48 : Int32))))))))
def fX6_readNumber (μ : Mem) : Option (Mem) := ((loop (stX6_readNumber_7) 5000 ((0 : Int32), wI μ 74 0 0 (0 : Int32))).bind fun b7 => (if b7.1 ≤ (3 : Int32) then (some (wI b7.2 73 0 0 (2 : Int32))) else (some (wI b7.2 73 0 0 (4 : Int32)))))
set_option maxHeartbeats 4000000 in
set_option maxRecDepth 100000 in
theorem okX6_readNumber (l : Launch) (cy : Nat → ClassId) (D : va_G) (B : Nat) (ek : EK) (σ μ ω : Mem) (res : Mem) (h : fX6_readNumber μ = some res) : CT l cy D B ek yX6_readNumber cX6_readNumber 2 none ({ frames := 2, cells := 0, slots := 0, locals := 43 } : Room) [.ref (B + oMd)] σ μ ω none σ res ω := by
  refine met_X (own := "HostelBedsModel") (by decide) rfl (Nat.le_of_ble_eq_true rfl) ?_
  intro p e s m args below meth c C hrT hlk
  have hret : ∀ (pc9 : Nat) (lcs9 : List (Nat × Value)), decode cX6_readNumber pc9 = .ok (.return_, 1) → X p l e ({ frames := 2, cells := 0, slots := 0, locals := 43 } : Room) s m args below meth c 2 cy D B 0 0 (MQ below (QR cy D B none σ res ω) args s 0 0 (aB B)) pc9 lcs9 [] σ res ω := fun _ _ hd => x_vret C hrT hlk hd
  generalize (MQ below (QR cy D B none σ res ω) args s 0 0 (aB B)) = Q at hret ⊢
  obtain ⟨R, hR9⟩ : ∃ R : Room, R = ({ frames := 2, cells := 0, slots := 0, locals := 43 } : Room) := ⟨_, rfl⟩
  rw [← hR9] at hret ⊢
  unfold fX6_readNumber at h
  show X p l e R s m args below meth c 2 cy D B 0 0 Q 0 [(0, .ref (B + oMd))] [] σ μ ω
  refine x_aload_n C dX6_readNumber_0 rfl 0 rfl ?_
  refine x_iconst C (v := 0) dX6_readNumber_1 (by decide) ?_
  refine x_put C (C1 := "HostelBedsModel") (T := TX6) (N := 27) (ci := 6) inXg6 tyX6 tyX6_ok nmX6 _ (c_Md) rfl 18 (by decide) (lw_g_mk tw_1149 rfl) rfl rfl rfl rfl (Nat.le_of_ble_eq_true rfl) dX6_readNumber_2 (s_Md_number) ?_
  refine x_iconst C (v := 0) dX6_readNumber_5 (by decide) ?_
  refine x_istore_n C [(1, .int (0 : Int32)), (0, .ref (B + oMd))] dX6_readNumber_6 rfl (by decide) rfl ?_
  obtain ⟨b7, hk8, h⟩ := Option.bind_eq_some_iff.mp h
  refine x_sub [1, 0] rfl ?_
  refine loop_run (step := stX6_readNumber_7) (P := fun (a7 : Int32 × Mem) => X p l e R s m args below meth c 2 cy D B 0 0 Q 7 [(0, .ref (B + oMd)), (1, .int a7.1)] [] σ a7.2 ω) (K := fun (b7 : Int32 × Mem) => X p l e R s m args below meth c 2 cy D B 0 0 Q 62 [(0, .ref (B + oMd)), (1, .int b7.1)] [] σ b7.2 ω) ?_ 5000 ((0 : Int32), wI μ 74 0 0 (0 : Int32)) b7 hk8 ?_
  · intro a7 r h hA1 hB2
    unfold stX6_readNumber_7 at h
    refine x_aload_n C dX6_readNumber_7 rfl 0 rfl ?_
    refine x_aload_n C dX6_readNumber_8 rfl 0 rfl ?_
    refine x_get C (C1 := "HostelBedsModel") (T := TX6) (N := 27) (ci := 6) inXg6 _ (c_Md) rfl 15 (by decide) (lw_g_mk tw_1146 rfl) rfl dX6_readNumber_9 ?_
    obtain ⟨q1, hk3, h⟩ := Option.bind_eq_some_iff.mp h
    refine x_callV C (As := [.int (rI a7.2 71 0 0)]) (rest := []) (lw_g_mk tw_1265 rfl) (lw_g_mk tsel_25 rfl) (c_Md) (C1 := "HostelBedsModel") (T := TX6) (N := 27) (ci := 6) rfl (okX6_isDigit l cy D B ek (rI a7.2 71 0 0) σ a7.2 ω _ hk3) rfl rfl (by rw [hR9]; decide) (lw_g_mk tw_1266 rfl) (lw_g_mk tw_7 rfl) (by decide) rfl (lw_g_mk tw_1263 rfl) rfl (Nat.le_of_ble_eq_true rfl) dX6_readNumber_12 (by rw [hR9]; decide) ?_
    refine x_if_eq C (tgt := 62) dX6_readNumber_15 (by decide) (fun hc4 => ?_) (fun hc4 => ?_)
    · rw [if_pos hc4] at h
      cases h
      exact hB2 (a7.1, a7.2) rfl
    · rw [if_neg hc4] at h
      refine x_iload_n C dX6_readNumber_18 rfl 1 rfl ?_
      refine x_iconst C (v := 3) dX6_readNumber_19 (by decide) ?_
      have hJ5 : ∀ (μ2 : Mem) (r9 : (Int32 × Mem) ⊕ (Int32 × Mem)), jX6_readNumber_46 a7 μ2 = some r9 → (∀ a2, r9 = .inl a2 → (fun (a7 : Int32 × Mem) => X p l e R s m args below meth c 2 cy D B 0 0 Q 7 [(0, .ref (B + oMd)), (1, .int a7.1)] [] σ a7.2 ω) a2) → (∀ b2, r9 = .inr b2 → (fun (b7 : Int32 × Mem) => X p l e R s m args below meth c 2 cy D B 0 0 Q 62 [(0, .ref (B + oMd)), (1, .int b7.1)] [] σ b7.2 ω) b2) → X p l e R s m args below meth c 2 cy D B 0 0 Q 46 [(0, .ref (B + oMd)), (1, .int a7.1)] [] σ μ2 ω := by
        intro μ2 r h hA1 hB2
        unfold jX6_readNumber_46 at h
        refine x_iinc C (k := 1) [(1, .int (a7.1 + (1 : Int32))), (0, .ref (B + oMd))] dX6_readNumber_46 rfl rfl (by decide) rfl ?_
        refine x_aload_n C dX6_readNumber_49 rfl 1 rfl ?_
        refine x_dup C dX6_readNumber_50 rfl ?_
        refine x_get C (C1 := "HostelBedsModel") (T := TX6) (N := 27) (ci := 6) inXg6 _ (c_Md) rfl 15 (by decide) (lw_g_mk tw_1146 rfl) rfl dX6_readNumber_51 ?_
        refine x_iconst C (v := 1) dX6_readNumber_54 (by decide) ?_
        refine x_iadd C dX6_readNumber_55 ?_
        refine x_put C (C1 := "HostelBedsModel") (T := TX6) (N := 27) (ci := 6) inXg6 tyX6 tyX6_ok nmX6 _ (c_Md) rfl 15 (by decide) (lw_g_mk tw_1146 rfl) rfl rfl rfl rfl (Nat.le_of_ble_eq_true rfl) dX6_readNumber_56 (s_Md_next) ?_
        refine x_goto C (tgt := 7) dX6_readNumber_59 (by decide) ?_
        cases h
        refine x_sub [1, 0] rfl ?_
        exact hA1 (a7.1 + (1 : Int32), wI μ2 71 0 0 ((rI μ2 71 0 0) + (1 : Int32))) rfl
      refine x_icmp_ge C (tgt := 46) dX6_readNumber_20 (by decide) (fun hc6 => ?_) (fun hc6 => ?_)
      · rw [if_pos hc6] at h
        exact hJ5 a7.2 _ h hA1 hB2
      · rw [if_neg hc6] at h
        refine x_aload_n C dX6_readNumber_23 rfl 0 rfl ?_
        refine x_bipush C (v := 10) dX6_readNumber_24 (by decide) ?_
        refine x_aload_n C dX6_readNumber_26 rfl 0 rfl ?_
        refine x_get C (C1 := "HostelBedsModel") (T := TX6) (N := 27) (ci := 6) inXg6 _ (c_Md) rfl 18 (by decide) (lw_g_mk tw_1149 rfl) rfl dX6_readNumber_27 ?_
        refine x_imul C dX6_readNumber_30 ?_
        refine x_aload_n C dX6_readNumber_31 rfl 0 rfl ?_
        refine x_aload_n C dX6_readNumber_32 rfl 0 rfl ?_
        refine x_get C (C1 := "HostelBedsModel") (T := TX6) (N := 27) (ci := 6) inXg6 _ (c_Md) rfl 15 (by decide) (lw_g_mk tw_1146 rfl) rfl dX6_readNumber_33 ?_
        obtain ⟨q3, hk7, h⟩ := Option.bind_eq_some_iff.mp h
        refine x_callV C (As := [.int (rI a7.2 71 0 0)]) (rest := [.int ((10 : Int32) * (rI a7.2 74 0 0)), .ref (B + oMd)]) (lw_g_mk tw_1251 rfl) (lw_g_mk tsel_22 rfl) (c_Md) (C1 := "HostelBedsModel") (T := TX6) (N := 27) (ci := 6) rfl (okX6_byteAt l cy D B ek (rI a7.2 71 0 0) σ a7.2 ω _ hk7) rfl rfl (by rw [hR9]; decide) (lw_g_mk tw_1252 rfl) (lw_g_mk tw_7 rfl) (by decide) rfl (lw_g_mk tw_1249 rfl) rfl (Nat.le_of_ble_eq_true rfl) dX6_readNumber_36 (by rw [hR9]; decide) ?_
        refine x_iadd C dX6_readNumber_39 ?_
        refine x_bipush C (v := 48) dX6_readNumber_40 (by decide) ?_
        refine x_isub C dX6_readNumber_42 ?_
        refine x_put C (C1 := "HostelBedsModel") (T := TX6) (N := 27) (ci := 6) inXg6 tyX6 tyX6_ok nmX6 _ (c_Md) rfl 18 (by decide) (lw_g_mk tw_1149 rfl) rfl rfl rfl rfl (Nat.le_of_ble_eq_true rfl) dX6_readNumber_43 (s_Md_number) ?_
        exact hJ5 (wI a7.2 74 0 0 ((((10 : Int32) * (rI a7.2 74 0 0)) + q3) - (48 : Int32))) _ h hA1 hB2
  · show X p l e R s m args below meth c 2 cy D B 0 0 Q 62 [(0, .ref (B + oMd)), (1, .int b7.1)] [] σ b7.2 ω
    refine x_aload_n C dX6_readNumber_62 rfl 0 rfl ?_
    refine x_iload_n C dX6_readNumber_63 rfl 1 rfl ?_
    refine x_iconst C (v := 3) dX6_readNumber_64 (by decide) ?_
    refine x_icmp_le C (tgt := 72) dX6_readNumber_65 (by decide) (fun hc9 => ?_) (fun hc9 => ?_)
    · rw [if_pos hc9] at h
      refine x_iconst C (v := 2) dX6_readNumber_72 (by decide) ?_
      refine x_put C (C1 := "HostelBedsModel") (T := TX6) (N := 27) (ci := 6) inXg6 tyX6 tyX6_ok nmX6 _ (c_Md) rfl 17 (by decide) (lw_g_mk tw_1148 rfl) rfl rfl rfl rfl (Nat.le_of_ble_eq_true rfl) dX6_readNumber_73 (s_Md_token) ?_
      cases h
      exact hret _ _ dX6_readNumber_76
    · rw [if_neg hc9] at h
      refine x_iconst C (v := 4) dX6_readNumber_68 (by decide) ?_
      refine x_goto C (tgt := 73) dX6_readNumber_69 (by decide) ?_
      refine x_put C (C1 := "HostelBedsModel") (T := TX6) (N := 27) (ci := 6) inXg6 tyX6 tyX6_ok nmX6 _ (c_Md) rfl 17 (by decide) (lw_g_mk tw_1148 rfl) rfl rfl rfl rfl (Nat.le_of_ble_eq_true rfl) dX6_readNumber_73 (s_Md_token) ?_
      cases h
      exact hret _ _ dX6_readNumber_76
def stX6_readToken_0 (a0 : Mem) : Option ((Mem) ⊕ (Mem)) := (if (rI a0 70 0 0) ≤ (rI a0 71 0 0) then (some (.inr a0)) else ((fX6_isBlank (rI a0 71 0 0) a0).bind fun q1 => (if q1 = 0 then (some (.inr a0)) else (some (.inl (wI a0 71 0 0 ((rI a0 71 0 0) + (1 : Int32))))))))
def jX6_readToken_111 (b0 : Mem) (t5 : Int32) : Option (Mem) := (some (wI (wI (wI b0 72 0 0 (rI b0 71 0 0)) 73 0 0 t5) 71 0 0 ((rI (wI (wI b0 72 0 0 (rI b0 71 0 0)) 73 0 0 t5) 71 0 0) + (1 : Int32))))
def fX6_readToken (μ : Mem) : Option (Mem) := ((loop (stX6_readToken_0) 5000 (μ)).bind fun b0 => (if (rI (wI b0 72 0 0 (rI b0 71 0 0)) 71 0 0) < (rI (wI b0 72 0 0 (rI b0 71 0 0)) 70 0 0) then ((fX6_isLetter (rI (wI b0 72 0 0 (rI b0 71 0 0)) 71 0 0) (wI b0 72 0 0 (rI b0 71 0 0))).bind fun q2 => (if q2 = 0 then ((fX6_isDigit (rI (wI b0 72 0 0 (rI b0 71 0 0)) 71 0 0) (wI b0 72 0 0 (rI b0 71 0 0))).bind fun q3 => (if q3 = 0 then ((fX6_byteAt (rI (wI b0 72 0 0 (rI b0 71 0 0)) 71 0 0) (wI b0 72 0 0 (rI b0 71 0 0))).bind fun q4 => (if ¬ q4 = (59 : Int32) then (jX6_readToken_111 b0 (4 : Int32)) else (jX6_readToken_111 b0 (3 : Int32)))) else ((fX6_readNumber (wI b0 72 0 0 (rI b0 71 0 0))).bind fun q6 => (some q6)))) else ((fX6_readWord (wI b0 72 0 0 (rI b0 71 0 0))).bind fun q7 => (some q7)))) else (some (wI (wI b0 72 0 0 (rI b0 71 0 0)) 73 0 0 (0 : Int32)))))
set_option maxHeartbeats 4000000 in
set_option maxRecDepth 100000 in
theorem okX6_readToken (l : Launch) (cy : Nat → ClassId) (D : va_G) (B : Nat) (ek : EK) (σ μ ω : Mem) (res : Mem) (h : fX6_readToken μ = some res) : CT l cy D B ek yX6_readToken cX6_readToken 1 none ({ frames := 3, cells := 0, slots := 0, locals := 64 } : Room) [.ref (B + oMd)] σ μ ω none σ res ω := by
  refine met_X (own := "HostelBedsModel") (by decide) rfl (Nat.le_of_ble_eq_true rfl) ?_
  intro p e s m args below meth c C hrT hlk
  have hret : ∀ (pc9 : Nat) (lcs9 : List (Nat × Value)), decode cX6_readToken pc9 = .ok (.return_, 1) → X p l e ({ frames := 3, cells := 0, slots := 0, locals := 64 } : Room) s m args below meth c 1 cy D B 0 0 (MQ below (QR cy D B none σ res ω) args s 0 0 (aB B)) pc9 lcs9 [] σ res ω := fun _ _ hd => x_vret C hrT hlk hd
  generalize (MQ below (QR cy D B none σ res ω) args s 0 0 (aB B)) = Q at hret ⊢
  obtain ⟨R, hR9⟩ : ∃ R : Room, R = ({ frames := 3, cells := 0, slots := 0, locals := 64 } : Room) := ⟨_, rfl⟩
  rw [← hR9] at hret ⊢
  unfold fX6_readToken at h
  show X p l e R s m args below meth c 1 cy D B 0 0 Q 0 [(0, .ref (B + oMd))] [] σ μ ω
  obtain ⟨b0, hk6, h⟩ := Option.bind_eq_some_iff.mp h
  refine loop_run (step := stX6_readToken_0) (P := fun (a0 : Mem) => X p l e R s m args below meth c 1 cy D B 0 0 Q 0 [(0, .ref (B + oMd))] [] σ a0 ω) (K := fun (b0 : Mem) => X p l e R s m args below meth c 1 cy D B 0 0 Q 35 [(0, .ref (B + oMd))] [] σ b0 ω) ?_ 5000 (μ) b0 hk6 ?_
  · intro a0 r h hA1 hB2
    unfold stX6_readToken_0 at h
    refine x_aload_n C dX6_readToken_0 rfl 0 rfl ?_
    refine x_get C (C1 := "HostelBedsModel") (T := TX6) (N := 27) (ci := 6) inXg6 _ (c_Md) rfl 15 (by decide) (lw_g_mk tw_1146 rfl) rfl dX6_readToken_1 ?_
    refine x_aload_n C dX6_readToken_4 rfl 0 rfl ?_
    refine x_get C (C1 := "HostelBedsModel") (T := TX6) (N := 27) (ci := 6) inXg6 _ (c_Md) rfl 14 (by decide) (lw_g_mk tw_1145 rfl) rfl dX6_readToken_5 ?_
    refine x_icmp_ge C (tgt := 35) dX6_readToken_8 (by decide) (fun hc3 => ?_) (fun hc3 => ?_)
    · rw [if_pos hc3] at h
      cases h
      exact hB2 a0 rfl
    · rw [if_neg hc3] at h
      refine x_aload_n C dX6_readToken_11 rfl 0 rfl ?_
      refine x_aload_n C dX6_readToken_12 rfl 0 rfl ?_
      refine x_get C (C1 := "HostelBedsModel") (T := TX6) (N := 27) (ci := 6) inXg6 _ (c_Md) rfl 15 (by decide) (lw_g_mk tw_1146 rfl) rfl dX6_readToken_13 ?_
      obtain ⟨q1, hk4, h⟩ := Option.bind_eq_some_iff.mp h
      refine x_callV C (As := [.int (rI a0 71 0 0)]) (rest := []) (lw_g_mk tw_1247 rfl) (lw_g_mk tsel_21 rfl) (c_Md) (C1 := "HostelBedsModel") (T := TX6) (N := 27) (ci := 6) rfl (okX6_isBlank l cy D B ek (rI a0 71 0 0) σ a0 ω _ hk4) rfl rfl (by rw [hR9]; decide) (lw_g_mk tw_1248 rfl) (lw_g_mk tw_7 rfl) (by decide) rfl (lw_g_mk tw_1245 rfl) rfl (Nat.le_of_ble_eq_true rfl) dX6_readToken_16 (by rw [hR9]; decide) ?_
      refine x_if_eq C (tgt := 35) dX6_readToken_19 (by decide) (fun hc5 => ?_) (fun hc5 => ?_)
      · rw [if_pos hc5] at h
        cases h
        exact hB2 a0 rfl
      · rw [if_neg hc5] at h
        refine x_aload_n C dX6_readToken_22 rfl 0 rfl ?_
        refine x_dup C dX6_readToken_23 rfl ?_
        refine x_get C (C1 := "HostelBedsModel") (T := TX6) (N := 27) (ci := 6) inXg6 _ (c_Md) rfl 15 (by decide) (lw_g_mk tw_1146 rfl) rfl dX6_readToken_24 ?_
        refine x_iconst C (v := 1) dX6_readToken_27 (by decide) ?_
        refine x_iadd C dX6_readToken_28 ?_
        refine x_put C (C1 := "HostelBedsModel") (T := TX6) (N := 27) (ci := 6) inXg6 tyX6 tyX6_ok nmX6 _ (c_Md) rfl 15 (by decide) (lw_g_mk tw_1146 rfl) rfl rfl rfl rfl (Nat.le_of_ble_eq_true rfl) dX6_readToken_29 (s_Md_next) ?_
        refine x_goto C (tgt := 0) dX6_readToken_32 (by decide) ?_
        cases h
        exact hA1 (wI a0 71 0 0 ((rI a0 71 0 0) + (1 : Int32))) rfl
  · show X p l e R s m args below meth c 1 cy D B 0 0 Q 35 [(0, .ref (B + oMd))] [] σ b0 ω
    refine x_aload_n C dX6_readToken_35 rfl 0 rfl ?_
    refine x_aload_n C dX6_readToken_36 rfl 0 rfl ?_
    refine x_get C (C1 := "HostelBedsModel") (T := TX6) (N := 27) (ci := 6) inXg6 _ (c_Md) rfl 15 (by decide) (lw_g_mk tw_1146 rfl) rfl dX6_readToken_37 ?_
    refine x_put C (C1 := "HostelBedsModel") (T := TX6) (N := 27) (ci := 6) inXg6 tyX6 tyX6_ok nmX6 _ (c_Md) rfl 16 (by decide) (lw_g_mk tw_1147 rfl) rfl rfl rfl rfl (Nat.le_of_ble_eq_true rfl) dX6_readToken_40 (s_Md_tokenAt) ?_
    refine x_aload_n C dX6_readToken_43 rfl 0 rfl ?_
    refine x_get C (C1 := "HostelBedsModel") (T := TX6) (N := 27) (ci := 6) inXg6 _ (c_Md) rfl 15 (by decide) (lw_g_mk tw_1146 rfl) rfl dX6_readToken_44 ?_
    refine x_aload_n C dX6_readToken_47 rfl 0 rfl ?_
    refine x_get C (C1 := "HostelBedsModel") (T := TX6) (N := 27) (ci := 6) inXg6 _ (c_Md) rfl 14 (by decide) (lw_g_mk tw_1145 rfl) rfl dX6_readToken_48 ?_
    refine x_icmp_lt C (tgt := 60) dX6_readToken_51 (by decide) (fun hc7 => ?_) (fun hc7 => ?_)
    · rw [if_pos hc7] at h
      refine x_aload_n C dX6_readToken_60 rfl 0 rfl ?_
      refine x_aload_n C dX6_readToken_61 rfl 0 rfl ?_
      refine x_get C (C1 := "HostelBedsModel") (T := TX6) (N := 27) (ci := 6) inXg6 _ (c_Md) rfl 15 (by decide) (lw_g_mk tw_1146 rfl) rfl dX6_readToken_62 ?_
      obtain ⟨q2, hk8, h⟩ := Option.bind_eq_some_iff.mp h
      refine x_callV C (As := [.int (rI (wI b0 72 0 0 (rI b0 71 0 0)) 71 0 0)]) (rest := []) (lw_g_mk tw_1255 rfl) (lw_g_mk tsel_23 rfl) (c_Md) (C1 := "HostelBedsModel") (T := TX6) (N := 27) (ci := 6) rfl (okX6_isLetter l cy D B ek (rI (wI b0 72 0 0 (rI b0 71 0 0)) 71 0 0) σ (wI b0 72 0 0 (rI b0 71 0 0)) ω _ hk8) rfl rfl (by rw [hR9]; decide) (lw_g_mk tw_1256 rfl) (lw_g_mk tw_7 rfl) (by decide) rfl (lw_g_mk tw_1253 rfl) rfl (Nat.le_of_ble_eq_true rfl) dX6_readToken_65 (by rw [hR9]; decide) ?_
      refine x_if_eq C (tgt := 76) dX6_readToken_68 (by decide) (fun hc9 => ?_) (fun hc9 => ?_)
      · rw [if_pos hc9] at h
        refine x_aload_n C dX6_readToken_76 rfl 0 rfl ?_
        refine x_aload_n C dX6_readToken_77 rfl 0 rfl ?_
        refine x_get C (C1 := "HostelBedsModel") (T := TX6) (N := 27) (ci := 6) inXg6 _ (c_Md) rfl 15 (by decide) (lw_g_mk tw_1146 rfl) rfl dX6_readToken_78 ?_
        obtain ⟨q3, hk10, h⟩ := Option.bind_eq_some_iff.mp h
        refine x_callV C (As := [.int (rI (wI b0 72 0 0 (rI b0 71 0 0)) 71 0 0)]) (rest := []) (lw_g_mk tw_1265 rfl) (lw_g_mk tsel_25 rfl) (c_Md) (C1 := "HostelBedsModel") (T := TX6) (N := 27) (ci := 6) rfl (okX6_isDigit l cy D B ek (rI (wI b0 72 0 0 (rI b0 71 0 0)) 71 0 0) σ (wI b0 72 0 0 (rI b0 71 0 0)) ω _ hk10) rfl rfl (by rw [hR9]; decide) (lw_g_mk tw_1266 rfl) (lw_g_mk tw_7 rfl) (by decide) rfl (lw_g_mk tw_1263 rfl) rfl (Nat.le_of_ble_eq_true rfl) dX6_readToken_81 (by rw [hR9]; decide) ?_
        refine x_if_eq C (tgt := 92) dX6_readToken_84 (by decide) (fun hc11 => ?_) (fun hc11 => ?_)
        · rw [if_pos hc11] at h
          refine x_aload_n C dX6_readToken_92 rfl 0 rfl ?_
          refine x_aload_n C dX6_readToken_93 rfl 0 rfl ?_
          refine x_aload_n C dX6_readToken_94 rfl 0 rfl ?_
          refine x_get C (C1 := "HostelBedsModel") (T := TX6) (N := 27) (ci := 6) inXg6 _ (c_Md) rfl 15 (by decide) (lw_g_mk tw_1146 rfl) rfl dX6_readToken_95 ?_
          obtain ⟨q4, hk12, h⟩ := Option.bind_eq_some_iff.mp h
          refine x_callV C (As := [.int (rI (wI b0 72 0 0 (rI b0 71 0 0)) 71 0 0)]) (rest := [.ref (B + oMd)]) (lw_g_mk tw_1251 rfl) (lw_g_mk tsel_22 rfl) (c_Md) (C1 := "HostelBedsModel") (T := TX6) (N := 27) (ci := 6) rfl (okX6_byteAt l cy D B ek (rI (wI b0 72 0 0 (rI b0 71 0 0)) 71 0 0) σ (wI b0 72 0 0 (rI b0 71 0 0)) ω _ hk12) rfl rfl (by rw [hR9]; decide) (lw_g_mk tw_1252 rfl) (lw_g_mk tw_7 rfl) (by decide) rfl (lw_g_mk tw_1249 rfl) rfl (Nat.le_of_ble_eq_true rfl) dX6_readToken_98 (by rw [hR9]; decide) ?_
          refine x_bipush C (v := 59) dX6_readToken_101 (by decide) ?_
          have hJ13 : ∀ (t5 : Int32) (r9 : Mem), jX6_readToken_111 b0 t5 = some r9 → (∀ (pc9 : Nat) (lcs9 : List (Nat × Value)), decode cX6_readToken pc9 = .ok (.return_, 1) → X p l e R s m args below meth c 1 cy D B 0 0 Q pc9 lcs9 [] σ r9 ω) → X p l e R s m args below meth c 1 cy D B 0 0 Q 111 [(0, .ref (B + oMd))] [.int t5, .ref (B + oMd)] σ (wI b0 72 0 0 (rI b0 71 0 0)) ω := by
            intro t5 res9 h hret
            unfold jX6_readToken_111 at h
            refine x_put C (C1 := "HostelBedsModel") (T := TX6) (N := 27) (ci := 6) inXg6 tyX6 tyX6_ok nmX6 _ (c_Md) rfl 17 (by decide) (lw_g_mk tw_1148 rfl) rfl rfl rfl rfl (Nat.le_of_ble_eq_true rfl) dX6_readToken_111 (s_Md_token) ?_
            refine x_aload_n C dX6_readToken_114 rfl 0 rfl ?_
            refine x_dup C dX6_readToken_115 rfl ?_
            refine x_get C (C1 := "HostelBedsModel") (T := TX6) (N := 27) (ci := 6) inXg6 _ (c_Md) rfl 15 (by decide) (lw_g_mk tw_1146 rfl) rfl dX6_readToken_116 ?_
            refine x_iconst C (v := 1) dX6_readToken_119 (by decide) ?_
            refine x_iadd C dX6_readToken_120 ?_
            refine x_put C (C1 := "HostelBedsModel") (T := TX6) (N := 27) (ci := 6) inXg6 tyX6 tyX6_ok nmX6 _ (c_Md) rfl 15 (by decide) (lw_g_mk tw_1146 rfl) rfl rfl rfl rfl (Nat.le_of_ble_eq_true rfl) dX6_readToken_121 (s_Md_next) ?_
            cases h
            exact hret _ _ dX6_readToken_124
          refine x_icmp_ne C (tgt := 110) dX6_readToken_103 (by decide) (fun hc14 => ?_) (fun hc14 => ?_)
          · rw [if_pos hc14] at h
            refine x_iconst C (v := 4) dX6_readToken_110 (by decide) ?_
            exact hJ13 (4 : Int32) _ h hret
          · rw [if_neg hc14] at h
            refine x_iconst C (v := 3) dX6_readToken_106 (by decide) ?_
            refine x_goto C (tgt := 111) dX6_readToken_107 (by decide) ?_
            exact hJ13 (3 : Int32) _ h hret
        · rw [if_neg hc11] at h
          refine x_aload_n C dX6_readToken_87 rfl 0 rfl ?_
          obtain ⟨q6, hk15, h⟩ := Option.bind_eq_some_iff.mp h
          refine x_callV C (As := []) (rest := []) (lw_g_mk tw_1269 rfl) (lw_g_mk tsel_26 rfl) (c_Md) (C1 := "HostelBedsModel") (T := TX6) (N := 27) (ci := 6) rfl (okX6_readNumber l cy D B ek σ (wI b0 72 0 0 (rI b0 71 0 0)) ω _ hk15) rfl rfl (by rw [hR9]; decide) (lw_g_mk tw_1270 rfl) (lw_g_mk tw_7 rfl) (by decide) rfl (lw_g_mk tw_1267 rfl) rfl (Nat.le_of_ble_eq_true rfl) dX6_readToken_88 (by rw [hR9]; decide) ?_
          cases h
          exact hret _ _ dX6_readToken_91
      · rw [if_neg hc9] at h
        refine x_aload_n C dX6_readToken_71 rfl 0 rfl ?_
        obtain ⟨q7, hk16, h⟩ := Option.bind_eq_some_iff.mp h
        refine x_callV C (As := []) (rest := []) (lw_g_mk tw_1259 rfl) (lw_g_mk tsel_24 rfl) (c_Md) (C1 := "HostelBedsModel") (T := TX6) (N := 27) (ci := 6) rfl (okX6_readWord l cy D B ek σ (wI b0 72 0 0 (rI b0 71 0 0)) ω _ hk16) rfl rfl (by rw [hR9]; decide) (lw_g_mk tw_1260 rfl) (lw_g_mk tw_7 rfl) (by decide) rfl (lw_g_mk tw_1257 rfl) rfl (Nat.le_of_ble_eq_true rfl) dX6_readToken_72 (by rw [hR9]; decide) ?_
        cases h
        exact hret _ _ dX6_readToken_75
    · rw [if_neg hc7] at h
      refine x_aload_n C dX6_readToken_54 rfl 0 rfl ?_
      refine x_iconst C (v := 0) dX6_readToken_55 (by decide) ?_
      refine x_put C (C1 := "HostelBedsModel") (T := TX6) (N := 27) (ci := 6) inXg6 tyX6 tyX6_ok nmX6 _ (c_Md) rfl 17 (by decide) (lw_g_mk tw_1148 rfl) rfl rfl rfl rfl (Nat.le_of_ble_eq_true rfl) dX6_readToken_56 (s_Md_token) ?_
      cases h
      exact hret _ _ dX6_readToken_59
def fX6_isWell (μ : Mem) : Option (Int32) := (if ¬ (rI μ 75 0 0) = (-1 : Int32) then (some ((0 : Int32))) else (some ((1 : Int32))))
set_option maxHeartbeats 4000000 in
set_option maxRecDepth 100000 in
theorem okX6_isWell (l : Launch) (cy : Nat → ClassId) (D : va_G) (B : Nat) (ek : EK) (σ μ ω : Mem) (res : Int32) (h : fX6_isWell μ = some res) : CT l cy D B ek yX6_isWell cX6_isWell 1 (some .boolean) ({ frames := 0, cells := 0, slots := 0, locals := 0 } : Room) [.ref (B + oMd)] σ μ ω (some (.int res)) σ μ ω := by
  refine met_X (own := "HostelBedsModel") (by decide) rfl (Nat.le_of_ble_eq_true rfl) ?_
  intro p e s m args below meth c C hrT hlk
  have hret : ∀ (pc9 : Nat) (lcs9 : List (Nat × Value)), decode cX6_isWell pc9 = .ok (.ireturn, 1) → narrow .boolean (.int res) = .int res → X p l e ({ frames := 0, cells := 0, slots := 0, locals := 0 } : Room) s m args below meth c 1 cy D B 0 0 (MQ below (QR cy D B (some (.int res)) σ μ ω) args s 0 0 (aB B)) pc9 lcs9 [.int res] σ μ ω := fun _ _ hd hn => x_zret C hrT hlk hn hd
  generalize (MQ below (QR cy D B (some (.int res)) σ μ ω) args s 0 0 (aB B)) = Q at hret ⊢
  obtain ⟨R, hR9⟩ : ∃ R : Room, R = ({ frames := 0, cells := 0, slots := 0, locals := 0 } : Room) := ⟨_, rfl⟩
  rw [← hR9] at hret ⊢
  unfold fX6_isWell at h
  show X p l e R s m args below meth c 1 cy D B 0 0 Q 0 [(0, .ref (B + oMd))] [] σ μ ω
  refine x_aload_n C dX6_isWell_0 rfl 0 rfl ?_
  refine x_get C (C1 := "HostelBedsModel") (T := TX6) (N := 27) (ci := 6) inXg6 _ (c_Md) rfl 20 (by decide) (lw_g_mk tw_1151 rfl) rfl dX6_isWell_1 ?_
  refine x_iconst C (v := -1) dX6_isWell_4 (by decide) ?_
  refine x_icmp_ne C (tgt := 12) dX6_isWell_5 (by decide) (fun hc1 => ?_) (fun hc1 => ?_)
  · rw [if_pos hc1] at h
    refine x_iconst C (v := 0) dX6_isWell_12 (by decide) ?_
    cases h
    exact hret _ _ dX6_isWell_13 (nar_Z (Or.inl rfl))
  · rw [if_neg hc1] at h
    refine x_iconst C (v := 1) dX6_isWell_8 (by decide) ?_
    refine x_goto C (tgt := 13) dX6_isWell_9 (by decide) ?_
    cases h
    exact hret _ _ dX6_isWell_13 (nar_Z (Or.inr rfl))
def fX6_must (p1 : Int32) (μ : Mem) : Option (Mem) := (if ¬ p1 = 0 then (some μ) else (if ¬ (rI μ 75 0 0) = (-1 : Int32) then (some μ) else (some (wI μ 75 0 0 (rI μ 72 0 0)))))
set_option maxHeartbeats 4000000 in
set_option maxRecDepth 100000 in
theorem okX6_must (l : Launch) (cy : Nat → ClassId) (D : va_G) (B : Nat) (ek : EK) (p1 : Int32) (σ μ ω : Mem) (res : Mem) (h : fX6_must p1 μ = some res) : CT l cy D B ek yX6_must cX6_must 2 none ({ frames := 0, cells := 0, slots := 0, locals := 0 } : Room) [.ref (B + oMd), .int p1] σ μ ω none σ res ω := by
  refine met_X (own := "HostelBedsModel") (by decide) rfl (Nat.le_of_ble_eq_true rfl) ?_
  intro p e s m args below meth c C hrT hlk
  have hret : ∀ (pc9 : Nat) (lcs9 : List (Nat × Value)), decode cX6_must pc9 = .ok (.return_, 1) → X p l e ({ frames := 0, cells := 0, slots := 0, locals := 0 } : Room) s m args below meth c 2 cy D B 0 0 (MQ below (QR cy D B none σ res ω) args s 0 0 (aB B)) pc9 lcs9 [] σ res ω := fun _ _ hd => x_vret C hrT hlk hd
  generalize (MQ below (QR cy D B none σ res ω) args s 0 0 (aB B)) = Q at hret ⊢
  obtain ⟨R, hR9⟩ : ∃ R : Room, R = ({ frames := 0, cells := 0, slots := 0, locals := 0 } : Room) := ⟨_, rfl⟩
  rw [← hR9] at hret ⊢
  unfold fX6_must at h
  show X p l e R s m args below meth c 2 cy D B 0 0 Q 0 [(0, .ref (B + oMd)), (1, .int p1)] [] σ μ ω
  refine x_iload_n C dX6_must_0 rfl 1 rfl ?_
  refine x_if_ne C (tgt := 20) dX6_must_1 (by decide) (fun hc1 => ?_) (fun hc1 => ?_)
  · rw [if_pos hc1] at h
    cases h
    exact hret _ _ dX6_must_20
  · rw [if_neg hc1] at h
    refine x_aload_n C dX6_must_4 rfl 0 rfl ?_
    refine x_get C (C1 := "HostelBedsModel") (T := TX6) (N := 27) (ci := 6) inXg6 _ (c_Md) rfl 20 (by decide) (lw_g_mk tw_1151 rfl) rfl dX6_must_5 ?_
    refine x_iconst C (v := -1) dX6_must_8 (by decide) ?_
    refine x_icmp_ne C (tgt := 20) dX6_must_9 (by decide) (fun hc2 => ?_) (fun hc2 => ?_)
    · rw [if_pos hc2] at h
      cases h
      exact hret _ _ dX6_must_20
    · rw [if_neg hc2] at h
      refine x_aload_n C dX6_must_12 rfl 0 rfl ?_
      refine x_aload_n C dX6_must_13 rfl 0 rfl ?_
      refine x_get C (C1 := "HostelBedsModel") (T := TX6) (N := 27) (ci := 6) inXg6 _ (c_Md) rfl 16 (by decide) (lw_g_mk tw_1147 rfl) rfl dX6_must_14 ?_
      refine x_put C (C1 := "HostelBedsModel") (T := TX6) (N := 27) (ci := 6) inXg6 tyX6 tyX6_ok nmX6 _ (c_Md) rfl 20 (by decide) (lw_g_mk tw_1151 rfl) rfl rfl rfl rfl (Nat.le_of_ble_eq_true rfl) dX6_must_17 (s_Md_wrongAt) ?_
      cases h
      exact hret _ _ dX6_must_20
def fX6_goesOn (μ : Mem) : Option (Mem) := ((fX6_isWell μ).bind fun q1 => (if q1 = 0 then (some μ) else ((fX6_readToken μ).bind fun q2 => (some q2))))
set_option maxHeartbeats 4000000 in
set_option maxRecDepth 100000 in
theorem okX6_goesOn (l : Launch) (cy : Nat → ClassId) (D : va_G) (B : Nat) (ek : EK) (σ μ ω : Mem) (res : Mem) (h : fX6_goesOn μ = some res) : CT l cy D B ek yX6_goesOn cX6_goesOn 1 none ({ frames := 4, cells := 0, slots := 0, locals := 84 } : Room) [.ref (B + oMd)] σ μ ω none σ res ω := by
  refine met_X (own := "HostelBedsModel") (by decide) rfl (Nat.le_of_ble_eq_true rfl) ?_
  intro p e s m args below meth c C hrT hlk
  have hret : ∀ (pc9 : Nat) (lcs9 : List (Nat × Value)), decode cX6_goesOn pc9 = .ok (.return_, 1) → X p l e ({ frames := 4, cells := 0, slots := 0, locals := 84 } : Room) s m args below meth c 1 cy D B 0 0 (MQ below (QR cy D B none σ res ω) args s 0 0 (aB B)) pc9 lcs9 [] σ res ω := fun _ _ hd => x_vret C hrT hlk hd
  generalize (MQ below (QR cy D B none σ res ω) args s 0 0 (aB B)) = Q at hret ⊢
  obtain ⟨R, hR9⟩ : ∃ R : Room, R = ({ frames := 4, cells := 0, slots := 0, locals := 84 } : Room) := ⟨_, rfl⟩
  rw [← hR9] at hret ⊢
  unfold fX6_goesOn at h
  show X p l e R s m args below meth c 1 cy D B 0 0 Q 0 [(0, .ref (B + oMd))] [] σ μ ω
  refine x_aload_n C dX6_goesOn_0 rfl 0 rfl ?_
  obtain ⟨q1, hk1, h⟩ := Option.bind_eq_some_iff.mp h
  refine x_callV C (As := []) (rest := []) (lw_g_mk tw_1273 rfl) (lw_g_mk tsel_27 rfl) (c_Md) (C1 := "HostelBedsModel") (T := TX6) (N := 27) (ci := 6) rfl (okX6_isWell l cy D B ek σ μ ω _ hk1) rfl rfl (by rw [hR9]; decide) (lw_g_mk tw_1274 rfl) (lw_g_mk tw_7 rfl) (by decide) rfl (lw_g_mk tw_1271 rfl) rfl (Nat.le_of_ble_eq_true rfl) dX6_goesOn_1 (by rw [hR9]; decide) ?_
  refine x_if_eq C (tgt := 11) dX6_goesOn_4 (by decide) (fun hc2 => ?_) (fun hc2 => ?_)
  · rw [if_pos hc2] at h
    cases h
    exact hret _ _ dX6_goesOn_11
  · rw [if_neg hc2] at h
    refine x_aload_n C dX6_goesOn_7 rfl 0 rfl ?_
    obtain ⟨q2, hk3, h⟩ := Option.bind_eq_some_iff.mp h
    refine x_callV C (As := []) (rest := []) (lw_g_mk tw_1243 rfl) (lw_g_mk tsel_20 rfl) (c_Md) (C1 := "HostelBedsModel") (T := TX6) (N := 27) (ci := 6) rfl (okX6_readToken l cy D B ek σ μ ω _ hk3) rfl rfl (by rw [hR9]; decide) (lw_g_mk tw_1244 rfl) (lw_g_mk tw_7 rfl) (by decide) rfl (lw_g_mk tw_1241 rfl) rfl (Nat.le_of_ble_eq_true rfl) dX6_goesOn_8 (by rw [hR9]; decide) ?_
    cases h
    exact hret _ _ dX6_goesOn_11
