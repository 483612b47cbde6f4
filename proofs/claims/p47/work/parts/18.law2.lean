def stL_isFree_3 (xs : (Nat → Int32)) (L : Nat) (p3 : Int32) (p4 : Int32) (hd : (Nat → Nat → Int32)) (a3 : Int32) : Option ((Int32) ⊕ ((Unit) ⊕ (Int32))) := (if (30 : Int32) ≤ a3 then (some (.inr (.inl ()))) else ((fL_isIn xs L p3 a3).bind fun q1 => (if q1 = 0 then (some (.inl (a3 + (1 : Int32)))) else (gd (inb p4 40) (gd (inb a3 30) (if (hd p4.toNatClampNeg a3.toNatClampNeg) = 0 then (some (.inl (a3 + (1 : Int32)))) else (some (.inr (.inr ((0 : Int32)))))))))))
def fL_isFree (xs : Nat → Int32) (L : Nat) (p3 : Int32) (p4 : Int32) (hd : (Nat → Nat → Int32)) : Option (Int32) := ((loop (stL_isFree_3 xs L p3 p4 hd) 5000 ((0 : Int32))).bind fun b3 => Sum.elim (fun z3 => (some ((1 : Int32)))) (fun w3 => (some w3)) b3)
set_option maxHeartbeats 4000000 in
set_option maxRecDepth 100000 in
theorem okL_isFree (l : Launch) (cy : Nat → ClassId) (D : va_G) (B : Nat) (ek : EK) (xs : Nat → Int32) (L : Nat) (hxs : xs = sX ek) (hLs : L = sL ek) (aH : Nat) (aR : Nat → Nat) (iH : Nat) (iR : Nat) (p3 : Int32) (p4 : Int32) (hd : (Nat → Nat → Int32)) (σ : Mem) (Y : va_W) (hH : Y[iH]? = some (cHd cy aH aR)) (hR : ∀ k, k < 40 → Y[iR + k]? = some (cRw cy (aR k) (hd k))) (res : Int32) (h : fL_isFree xs L p3 p4 hd = some res) : CT l cy D B ek yL_isFree cL_isFree 5 (some .boolean) ({ frames := 3, cells := 0, slots := 0, locals := 68 } : Room) [.ref (sA ek), .ref aH, .int p3, .int p4] σ Y (some (.int res)) σ Y := by
  refine met_X (own := "HostelBedsLaw") (by decide) rfl (Nat.le_of_ble_eq_true rfl) ?_
  intro p e s m args below meth c C hrT hlk
  have hret : ∀ (pc9 : Nat) (lcs9 : List (Nat × Value)), decode cL_isFree pc9 = .ok (.ireturn, 1) → narrow .boolean (.int res) = .int res → X p l e ({ frames := 3, cells := 0, slots := 0, locals := 68 } : Room) s m args below meth c 5 cy D B 0 0 (MQ below (QR cy D B (some (.int res)) σ Y) args s 0 0 (aB B)) pc9 lcs9 [.int res] σ Y := fun _ _ hd hn => x_zret C hrT hlk hn hd
  generalize (MQ below (QR cy D B (some (.int res)) σ Y) args s 0 0 (aB B)) = Q at hret ⊢
  obtain ⟨R, hR9⟩ : ∃ R : Room, R = ({ frames := 3, cells := 0, slots := 0, locals := 68 } : Room) := ⟨_, rfl⟩
  rw [← hR9] at hret ⊢
  have hRc : R.cells = 0 := by rw [hR9]
  have hRs : R.slots = 0 := by rw [hR9]
  unfold fL_isFree at h
  show X p l e R s m args below meth c 5 cy D B 0 0 Q 0 [(0, .ref (sA ek)), (1, .ref aH), (2, .int p3), (3, .int p4)] [] σ Y
  refine x_iconst C (v := 0) dL_isFree_0 (by decide) ?_
  refine x_istore C [(4, .int (0 : Int32)), (0, .ref (sA ek)), (1, .ref aH), (2, .int p3), (3, .int p4)] dL_isFree_1 (by decide) rfl ?_
  obtain ⟨b3, hk9, h⟩ := Option.bind_eq_some_iff.mp h
  refine x_sub [1, 2, 3, 4, 0] rfl ?_
  refine loop_run (step := stL_isFree_3 xs L p3 p4 hd) (P := fun (a3 : Int32) => X p l e R s m args below meth c 5 cy D B 0 0 Q 3 [(0, .ref (sA ek)), (1, .ref aH), (2, .int p3), (3, .int p4), (4, .int a3)] [] σ Y) (K := fun (b3 : (Unit) ⊕ (Int32)) => Sum.elim (fun z3 => X p l e R s m args below meth c 5 cy D B 0 0 Q 37 [] [] σ Y) (fun w3 => ∀ (pc9 : Nat) (lcs9 : List (Nat × Value)), decode cL_isFree pc9 = .ok (.ireturn, 1) → narrow .boolean (.int w3) = .int w3 → X p l e R s m args below meth c 5 cy D B 0 0 Q pc9 lcs9 [.int w3] σ Y) b3) ?_ 5000 ((0 : Int32)) b3 hk9 ?_
  · intro a3 r h hA1 hB2
    unfold stL_isFree_3 at h
    refine x_iload C dL_isFree_3 4 rfl ?_
    refine x_bipush C (v := 30) dL_isFree_5 (by decide) ?_
    refine x_icmp_ge C (tgt := 37) dL_isFree_7 (by decide) (fun hc3 => ?_) (fun hc3 => ?_)
    · rw [if_pos hc3] at h
      cases h
      refine x_sub [] rfl ?_
      exact hB2 (.inl ()) rfl
    · rw [if_neg hc3] at h
      refine x_aload_n C dL_isFree_10 rfl 0 rfl ?_
      refine x_iload_n C dL_isFree_11 rfl 2 rfl ?_
      refine x_iload C dL_isFree_12 4 rfl ?_
      obtain ⟨q1, hk4, h⟩ := Option.bind_eq_some_iff.mp h
      refine x_callS C (As := [.ref (sA ek), .int p3, .int a3]) (rest := []) (lw_g_mk tw_1068 rfl) (okL_isIn l cy D B ek xs L hxs hLs p3 a3 σ Y _ hk4) rfl rfl (by rw [hR9]; decide) (lw_g_mk tw_1069 rfl) (lw_g_mk tw_0 rfl) (by decide) rfl (lw_g_mk tw_1067 rfl) rfl (Nat.le_of_ble_eq_true rfl) dL_isFree_14 ⟨by rw [hRc]; omega, by rw [hRs]; omega⟩ ?_
      refine x_if_eq C (tgt := 31) dL_isFree_17 (by decide) (fun hc5 => ?_) (fun hc5 => ?_)
      · rw [if_pos hc5] at h
        refine x_iinc C (k := 4) [(4, .int (a3 + (1 : Int32))), (0, .ref (sA ek)), (1, .ref aH), (2, .int p3), (3, .int p4)] dL_isFree_31 rfl rfl (by decide) rfl ?_
        refine x_goto C (tgt := 3) dL_isFree_34 (by decide) ?_
        cases h
        refine x_sub [1, 2, 3, 4, 0] rfl ?_
        exact hA1 (a3 + (1 : Int32)) rfl
      · rw [if_neg hc5] at h
        refine x_aload_n C dL_isFree_20 rfl 1 rfl ?_
        refine x_iload_n C dL_isFree_21 rfl 3 rfl ?_
        obtain ⟨hg6, h⟩ := gd_some h
        refine x_aldR C _ (wl_ex hH) hg6 (if_pos (inb_lt hg6)) dL_isFree_22 ?_
        refine x_iload C dL_isFree_23 4 rfl ?_
        obtain ⟨hg7, h⟩ := gd_some h
        refine x_iald C _ (wl_ex (hR _ (inb_lt hg6))) hg7 dL_isFree_25 ?_
        refine x_if_eq C (tgt := 31) dL_isFree_26 (by decide) (fun hc8 => ?_) (fun hc8 => ?_)
        · rw [if_pos hc8] at h
          refine x_iinc C (k := 4) [(4, .int (a3 + (1 : Int32))), (0, .ref (sA ek)), (1, .ref aH), (2, .int p3), (3, .int p4)] dL_isFree_31 rfl rfl (by decide) rfl ?_
          refine x_goto C (tgt := 3) dL_isFree_34 (by decide) ?_
          cases h
          refine x_sub [1, 2, 3, 4, 0] rfl ?_
          exact hA1 (a3 + (1 : Int32)) rfl
        · rw [if_neg hc8] at h
          refine x_iconst C (v := 0) dL_isFree_29 (by decide) ?_
          cases h
          exact hB2 (.inr ((0 : Int32))) rfl _ _ dL_isFree_30 (nar_Z (Or.inl rfl))
  · rcases b3 with z3 | w3
    · rw [Sum.elim_inl] at h
      show X p l e R s m args below meth c 5 cy D B 0 0 Q 37 [] [] σ Y
      refine x_iconst C (v := 1) dL_isFree_37 (by decide) ?_
      cases h
      exact hret _ _ dL_isFree_38 (nar_Z (Or.inr rfl))
    · rw [Sum.elim_inr] at h
      show ∀ (pc9 : Nat) (lcs9 : List (Nat × Value)), decode cL_isFree pc9 = .ok (.ireturn, 1) → narrow .boolean (.int w3) = .int w3 → X p l e R s m args below meth c 5 cy D B 0 0 Q pc9 lcs9 [.int w3] σ Y
      cases h
      exact hret
def jL_free_40 (a6 : Int32 × Int32) (t3 : Int32) : Option ((Int32 × Int32) ⊕ (Int32)) := (some (.inl (a6.1 + t3, a6.2 + (1 : Int32))))
def stL_free_6 (xs : (Nat → Int32)) (L : Nat) (p4 : Int32) (p3 : Int32) (hd : (Nat → Nat → Int32)) (a6 : Int32 × Int32) : Option ((Int32 × Int32) ⊕ (Int32)) := ((fL_room xs L p4 (1 : Int32)).bind fun q1 => (if q1 ≤ a6.2 then (some (.inr a6.1)) else ((fL_isFree xs L p3 (((10 : Int32) * p4) + a6.2) hd).bind fun q2 => (if q2 = 0 then (jL_free_40 a6 (0 : Int32)) else (jL_free_40 a6 (1 : Int32))))))
def fL_free (xs : Nat → Int32) (L : Nat) (p3 : Int32) (p4 : Int32) (hd : (Nat → Nat → Int32)) : Option (Int32) := ((loop (stL_free_6 xs L p4 p3 hd) 5000 ((0 : Int32), (0 : Int32))).bind fun b6 => (some b6))
set_option maxHeartbeats 4000000 in
set_option maxRecDepth 100000 in
theorem okL_free (l : Launch) (cy : Nat → ClassId) (D : va_G) (B : Nat) (ek : EK) (xs : Nat → Int32) (L : Nat) (hxs : xs = sX ek) (hLs : L = sL ek) (aH : Nat) (aR : Nat → Nat) (iH : Nat) (iR : Nat) (p3 : Int32) (p4 : Int32) (hd : (Nat → Nat → Int32)) (σ : Mem) (Y : va_W) (hH : Y[iH]? = some (cHd cy aH aR)) (hR : ∀ k, k < 40 → Y[iR + k]? = some (cRw cy (aR k) (hd k))) (res : Int32) (h : fL_free xs L p3 p4 hd = some res) : CT l cy D B ek yL_free cL_free 6 (some .int) ({ frames := 4, cells := 0, slots := 0, locals := 92 } : Room) [.ref (sA ek), .ref aH, .int p3, .int p4] σ Y (some (.int res)) σ Y := by
  refine met_X (own := "HostelBedsLaw") (by decide) rfl (Nat.le_of_ble_eq_true rfl) ?_
  intro p e s m args below meth c C hrT hlk
  have hret : ∀ (pc9 : Nat) (lcs9 : List (Nat × Value)), decode cL_free pc9 = .ok (.ireturn, 1) → narrow .int (.int res) = .int res → X p l e ({ frames := 4, cells := 0, slots := 0, locals := 92 } : Room) s m args below meth c 6 cy D B 0 0 (MQ below (QR cy D B (some (.int res)) σ Y) args s 0 0 (aB B)) pc9 lcs9 [.int res] σ Y := fun _ _ hd hn => x_zret C hrT hlk hn hd
  generalize (MQ below (QR cy D B (some (.int res)) σ Y) args s 0 0 (aB B)) = Q at hret ⊢
  obtain ⟨R, hR9⟩ : ∃ R : Room, R = ({ frames := 4, cells := 0, slots := 0, locals := 92 } : Room) := ⟨_, rfl⟩
  rw [← hR9] at hret ⊢
  have hRc : R.cells = 0 := by rw [hR9]
  have hRs : R.slots = 0 := by rw [hR9]
  unfold fL_free at h
  show X p l e R s m args below meth c 6 cy D B 0 0 Q 0 [(0, .ref (sA ek)), (1, .ref aH), (2, .int p3), (3, .int p4)] [] σ Y
  refine x_iconst C (v := 0) dL_free_0 (by decide) ?_
  refine x_istore C [(4, .int (0 : Int32)), (0, .ref (sA ek)), (1, .ref aH), (2, .int p3), (3, .int p4)] dL_free_1 (by decide) rfl ?_
  refine x_iconst C (v := 0) dL_free_3 (by decide) ?_
  refine x_istore C [(5, .int (0 : Int32)), (4, .int (0 : Int32)), (0, .ref (sA ek)), (1, .ref aH), (2, .int p3), (3, .int p4)] dL_free_4 (by decide) rfl ?_
  obtain ⟨b6, hk8, h⟩ := Option.bind_eq_some_iff.mp h
  refine x_sub [2, 3, 4, 5, 1, 0] rfl ?_
  refine loop_run (step := stL_free_6 xs L p4 p3 hd) (P := fun (a6 : Int32 × Int32) => X p l e R s m args below meth c 6 cy D B 0 0 Q 6 [(0, .ref (sA ek)), (1, .ref aH), (2, .int p3), (3, .int p4), (4, .int a6.1), (5, .int a6.2)] [] σ Y) (K := fun (b6 : Int32) => X p l e R s m args below meth c 6 cy D B 0 0 Q 49 [(4, .int b6)] [] σ Y) ?_ 5000 ((0 : Int32), (0 : Int32)) b6 hk8 ?_
  · intro a6 r h hA1 hB2
    unfold stL_free_6 at h
    refine x_iload C dL_free_6 5 rfl ?_
    refine x_aload_n C dL_free_8 rfl 0 rfl ?_
    refine x_iload_n C dL_free_9 rfl 3 rfl ?_
    refine x_iconst C (v := 1) dL_free_10 (by decide) ?_
    obtain ⟨q1, hk3, h⟩ := Option.bind_eq_some_iff.mp h
    refine x_callS C (As := [.ref (sA ek), .int p4, .int (1 : Int32)]) (rest := [.int a6.2]) (lw_g_mk tw_764 rfl) (okL_room l cy D B ek xs L hxs hLs p4 (1 : Int32) σ Y _ hk3) rfl rfl (by rw [hR9]; decide) (lw_g_mk tw_765 rfl) (lw_g_mk tw_0 rfl) (by decide) rfl (lw_g_mk tw_763 rfl) rfl (Nat.le_of_ble_eq_true rfl) dL_free_11 ⟨by rw [hRc]; omega, by rw [hRs]; omega⟩ ?_
    refine x_icmp_ge C (tgt := 49) dL_free_14 (by decide) (fun hc4 => ?_) (fun hc4 => ?_)
    · rw [if_pos hc4] at h
      cases h
      refine x_sub [4] rfl ?_
      exact hB2 a6.1 rfl
    · rw [if_neg hc4] at h
      refine x_iload C dL_free_17 4 rfl ?_
      refine x_aload_n C dL_free_19 rfl 0 rfl ?_
      refine x_aload_n C dL_free_20 rfl 1 rfl ?_
      refine x_iload_n C dL_free_21 rfl 2 rfl ?_
      refine x_bipush C (v := 10) dL_free_22 (by decide) ?_
      refine x_iload_n C dL_free_24 rfl 3 rfl ?_
      refine x_imul C dL_free_25 ?_
      refine x_iload C dL_free_26 5 rfl ?_
      refine x_iadd C dL_free_28 ?_
      obtain ⟨q2, hk5, h⟩ := Option.bind_eq_some_iff.mp h
      refine x_callS C (As := [.ref (sA ek), .ref aH, .int p3, .int (((10 : Int32) * p4) + a6.2)]) (rest := [.int a6.1]) (lw_g_mk tw_1092 rfl) (okL_isFree l cy D B ek xs L hxs hLs _ _ _ _ p3 (((10 : Int32) * p4) + a6.2) hd σ Y hH hR _ hk5) rfl rfl (by rw [hR9]; decide) (lw_g_mk tw_1093 rfl) (lw_g_mk tw_0 rfl) (by decide) rfl (lw_g_mk tw_1091 rfl) rfl (Nat.le_of_ble_eq_true rfl) dL_free_29 ⟨by rw [hRc]; omega, by rw [hRs]; omega⟩ ?_
      have hJ6 : ∀ (t3 : Int32) (r9 : (Int32 × Int32) ⊕ (Int32)), jL_free_40 a6 t3 = some r9 → (∀ a2, r9 = .inl a2 → (fun (a6 : Int32 × Int32) => X p l e R s m args below meth c 6 cy D B 0 0 Q 6 [(0, .ref (sA ek)), (1, .ref aH), (2, .int p3), (3, .int p4), (4, .int a6.1), (5, .int a6.2)] [] σ Y) a2) → (∀ b2, r9 = .inr b2 → (fun (b6 : Int32) => X p l e R s m args below meth c 6 cy D B 0 0 Q 49 [(4, .int b6)] [] σ Y) b2) → X p l e R s m args below meth c 6 cy D B 0 0 Q 40 [(0, .ref (sA ek)), (1, .ref aH), (2, .int p3), (3, .int p4), (5, .int a6.2)] [.int t3, .int a6.1] σ Y := by
        intro t3 r h hA1 hB2
        unfold jL_free_40 at h
        refine x_iadd C dL_free_40 ?_
        refine x_istore C [(4, .int (a6.1 + t3)), (0, .ref (sA ek)), (1, .ref aH), (2, .int p3), (3, .int p4), (5, .int a6.2)] dL_free_41 (by decide) rfl ?_
        refine x_iinc C (k := 5) [(5, .int (a6.2 + (1 : Int32))), (4, .int (a6.1 + t3)), (0, .ref (sA ek)), (1, .ref aH), (2, .int p3), (3, .int p4)] dL_free_43 rfl rfl (by decide) rfl ?_
        refine x_goto C (tgt := 6) dL_free_46 (by decide) ?_
        cases h
        refine x_sub [2, 3, 4, 5, 1, 0] rfl ?_
        exact hA1 (a6.1 + t3, a6.2 + (1 : Int32)) rfl
      refine x_if_eq C (tgt := 39) dL_free_32 (by decide) (fun hc7 => ?_) (fun hc7 => ?_)
      · rw [if_pos hc7] at h
        refine x_iconst C (v := 0) dL_free_39 (by decide) ?_
        refine x_sub [0, 1, 2, 3, 5] rfl ?_
        exact hJ6 (0 : Int32) _ h hA1 hB2
      · rw [if_neg hc7] at h
        refine x_iconst C (v := 1) dL_free_35 (by decide) ?_
        refine x_goto C (tgt := 40) dL_free_36 (by decide) ?_
        refine x_sub [0, 1, 2, 3, 5] rfl ?_
        exact hJ6 (1 : Int32) _ h hA1 hB2
  · show X p l e R s m args below meth c 6 cy D B 0 0 Q 49 [(4, .int b6)] [] σ Y
    refine x_iload C dL_free_49 0 rfl ?_
    cases h
    exact hret _ _ dL_free_51 rfl
def jL_oneRoom_148 (a8 : Int32 × Int32 × Int32) (q6 : Int32) (q8 : Int32) : Option ((Int32 × Int32 × Int32) ⊕ (Int32)) := (some (.inl (a8.2.2, (((q6 * (1000 : Int32)) + q8) * (10 : Int32)) + a8.2.2, a8.2.2 + (1 : Int32))))
def jL_oneRoom_82 (xs : (Nat → Int32)) (L : Nat) (p3 : Int32) (a8 : Int32 × Int32 × Int32) (hd : (Nat → Nat → Int32)) (t5 : Int32) : Option ((Int32 × Int32 × Int32) ⊕ (Int32)) := ((fL_free xs L p3 a8.2.2 hd).bind fun q6 => (if t5 = 0 then (some (.inl (a8.1, a8.2.1, a8.2.2 + (1 : Int32)))) else ((fL_people xs L p3).bind fun q7 => (if q7 ≤ q6 then ((fL_room xs L a8.2.2 (3 : Int32)).bind fun q8 => (if a8.1 < 0 then (jL_oneRoom_148 a8 q6 q8) else (if ((((q6 * (1000 : Int32)) + q8) * (10 : Int32)) + a8.2.2) ≤ a8.2.1 then (jL_oneRoom_148 a8 q6 q8) else (some (.inl (a8.1, a8.2.1, a8.2.2 + (1 : Int32))))))) else (some (.inl (a8.1, a8.2.1, a8.2.2 + (1 : Int32))))))))
def jL_oneRoom_81 (xs : (Nat → Int32)) (L : Nat) (p3 : Int32) (a8 : Int32 × Int32 × Int32) (hd : (Nat → Nat → Int32)) : Option ((Int32 × Int32 × Int32) ⊕ (Int32)) := (jL_oneRoom_82 xs L p3 a8 hd (0 : Int32))
def jL_oneRoom_62 (q2 : Int32) (xs : (Nat → Int32)) (L : Nat) (p3 : Int32) (a8 : Int32 × Int32 × Int32) (hd : (Nat → Nat → Int32)) : Option ((Int32 × Int32 × Int32) ⊕ (Int32)) := (if ¬ q2 = (2 : Int32) then (jL_oneRoom_81 xs L p3 a8 hd) else ((fL_booking xs L p3 (2 : Int32)).bind fun q9 => (if ¬ q9 = 0 then (jL_oneRoom_81 xs L p3 a8 hd) else (jL_oneRoom_82 xs L p3 a8 hd (1 : Int32)))))
def stL_oneRoom_8 (xs : (Nat → Int32)) (L : Nat) (p3 : Int32) (hd : (Nat → Nat → Int32)) (a8 : Int32 × Int32 × Int32) : Option ((Int32 × Int32 × Int32) ⊕ (Int32)) := ((fL_roomsOf xs L).bind fun q1 => (if q1 ≤ a8.2.2 then (some (.inr a8.1)) else ((fL_room xs L a8.2.2 (0 : Int32)).bind fun q2 => ((fL_booking xs L p3 (4 : Int32)).bind fun q3 => ((fL_room xs L a8.2.2 (2 : Int32)).bind fun q4 => (if q3 < q4 then (jL_oneRoom_81 xs L p3 a8 hd) else (if q2 = 0 then (jL_oneRoom_82 xs L p3 a8 hd (1 : Int32)) else (if ¬ q2 = (1 : Int32) then (jL_oneRoom_62 q2 xs L p3 a8 hd) else ((fL_booking xs L p3 (3 : Int32)).bind fun q10 => (if q10 = 0 then (jL_oneRoom_82 xs L p3 a8 hd (1 : Int32)) else (jL_oneRoom_62 q2 xs L p3 a8 hd)))))))))))
def fL_oneRoom (xs : Nat → Int32) (L : Nat) (p3 : Int32) (hd : (Nat → Nat → Int32)) : Option (Int32) := ((loop (stL_oneRoom_8 xs L p3 hd) 5000 ((-1 : Int32), (0 : Int32), (0 : Int32))).bind fun b8 => (some (b8 + (1 : Int32))))
set_option maxHeartbeats 4000000 in
set_option maxRecDepth 100000 in
theorem okL_oneRoom (l : Launch) (cy : Nat → ClassId) (D : va_G) (B : Nat) (ek : EK) (xs : Nat → Int32) (L : Nat) (hxs : xs = sX ek) (hLs : L = sL ek) (aH : Nat) (aR : Nat → Nat) (iH : Nat) (iR : Nat) (p3 : Int32) (hd : (Nat → Nat → Int32)) (σ : Mem) (Y : va_W) (hH : Y[iH]? = some (cHd cy aH aR)) (hR : ∀ k, k < 40 → Y[iR + k]? = some (cRw cy (aR k) (hd k))) (res : Int32) (h : fL_oneRoom xs L p3 hd = some res) : CT l cy D B ek yL_oneRoom cL_oneRoom 10 (some .int) ({ frames := 5, cells := 0, slots := 0, locals := 117 } : Room) [.ref (sA ek), .ref aH, .int p3] σ Y (some (.int res)) σ Y := by
  refine met_X (own := "HostelBedsLaw") (by decide) rfl (Nat.le_of_ble_eq_true rfl) ?_
  intro p e s m args below meth c C hrT hlk
  have hret : ∀ (pc9 : Nat) (lcs9 : List (Nat × Value)), decode cL_oneRoom pc9 = .ok (.ireturn, 1) → narrow .int (.int res) = .int res → X p l e ({ frames := 5, cells := 0, slots := 0, locals := 117 } : Room) s m args below meth c 10 cy D B 0 0 (MQ below (QR cy D B (some (.int res)) σ Y) args s 0 0 (aB B)) pc9 lcs9 [.int res] σ Y := fun _ _ hd hn => x_zret C hrT hlk hn hd
  generalize (MQ below (QR cy D B (some (.int res)) σ Y) args s 0 0 (aB B)) = Q at hret ⊢
  obtain ⟨R, hR9⟩ : ∃ R : Room, R = ({ frames := 5, cells := 0, slots := 0, locals := 117 } : Room) := ⟨_, rfl⟩
  rw [← hR9] at hret ⊢
  have hRc : R.cells = 0 := by rw [hR9]
  have hRs : R.slots = 0 := by rw [hR9]
  unfold fL_oneRoom at h
  show X p l e R s m args below meth c 10 cy D B 0 0 Q 0 [(0, .ref (sA ek)), (1, .ref aH), (2, .int p3)] [] σ Y
  refine x_iconst C (v := -1) dL_oneRoom_0 (by decide) ?_
  refine x_istore_n C [(3, .int (-1 : Int32)), (0, .ref (sA ek)), (1, .ref aH), (2, .int p3)] dL_oneRoom_1 rfl (by decide) rfl ?_
  refine x_iconst C (v := 0) dL_oneRoom_2 (by decide) ?_
  refine x_istore C [(4, .int (0 : Int32)), (3, .int (-1 : Int32)), (0, .ref (sA ek)), (1, .ref aH), (2, .int p3)] dL_oneRoom_3 (by decide) rfl ?_
  refine x_iconst C (v := 0) dL_oneRoom_5 (by decide) ?_
  refine x_istore C [(5, .int (0 : Int32)), (4, .int (0 : Int32)), (3, .int (-1 : Int32)), (0, .ref (sA ek)), (1, .ref aH), (2, .int p3)] dL_oneRoom_6 (by decide) rfl ?_
  obtain ⟨b8, hk27, h⟩ := Option.bind_eq_some_iff.mp h
  refine x_sub [3, 4, 5, 2, 1, 0] rfl ?_
  refine loop_run (step := stL_oneRoom_8 xs L p3 hd) (P := fun (a8 : Int32 × Int32 × Int32) => X p l e R s m args below meth c 10 cy D B 0 0 Q 8 [(0, .ref (sA ek)), (1, .ref aH), (2, .int p3), (3, .int a8.1), (4, .int a8.2.1), (5, .int a8.2.2)] [] σ Y) (K := fun (b8 : Int32) => X p l e R s m args below meth c 10 cy D B 0 0 Q 161 [(3, .int b8)] [] σ Y) ?_ 5000 ((-1 : Int32), (0 : Int32), (0 : Int32)) b8 hk27 ?_
  · intro a8 r h hA1 hB2
    unfold stL_oneRoom_8 at h
    refine x_iload C dL_oneRoom_8 5 rfl ?_
    refine x_aload_n C dL_oneRoom_10 rfl 0 rfl ?_
    obtain ⟨q1, hk3, h⟩ := Option.bind_eq_some_iff.mp h
    refine x_callS C (As := [.ref (sA ek)]) (rest := [.int a8.2.2]) (lw_g_mk tw_761 rfl) (okL_roomsOf l cy D B ek xs L hxs hLs σ Y _ hk3) rfl rfl (by rw [hR9]; decide) (lw_g_mk tw_762 rfl) (lw_g_mk tw_0 rfl) (by decide) rfl (lw_g_mk tw_760 rfl) rfl (Nat.le_of_ble_eq_true rfl) dL_oneRoom_11 ⟨by rw [hRc]; omega, by rw [hRs]; omega⟩ ?_
    refine x_icmp_ge C (tgt := 161) dL_oneRoom_14 (by decide) (fun hc4 => ?_) (fun hc4 => ?_)
    · rw [if_pos hc4] at h
      cases h
      refine x_sub [3] rfl ?_
      exact hB2 a8.1 rfl
    · rw [if_neg hc4] at h
      refine x_aload_n C dL_oneRoom_17 rfl 0 rfl ?_
      refine x_iload C dL_oneRoom_18 5 rfl ?_
      refine x_iconst C (v := 0) dL_oneRoom_20 (by decide) ?_
      obtain ⟨q2, hk5, h⟩ := Option.bind_eq_some_iff.mp h
      refine x_callS C (As := [.ref (sA ek), .int a8.2.2, .int (0 : Int32)]) (rest := []) (lw_g_mk tw_764 rfl) (okL_room l cy D B ek xs L hxs hLs a8.2.2 (0 : Int32) σ Y _ hk5) rfl rfl (by rw [hR9]; decide) (lw_g_mk tw_765 rfl) (lw_g_mk tw_0 rfl) (by decide) rfl (lw_g_mk tw_763 rfl) rfl (Nat.le_of_ble_eq_true rfl) dL_oneRoom_21 ⟨by rw [hRc]; omega, by rw [hRs]; omega⟩ ?_
      refine x_istore C [(6, .int q2), (0, .ref (sA ek)), (1, .ref aH), (2, .int p3), (3, .int a8.1), (4, .int a8.2.1), (5, .int a8.2.2)] dL_oneRoom_24 (by decide) rfl ?_
      refine x_aload_n C dL_oneRoom_26 rfl 1 rfl ?_
      refine x_iload_n C dL_oneRoom_27 rfl 3 rfl ?_
      refine x_iconst C (v := 4) dL_oneRoom_28 (by decide) ?_
      obtain ⟨q3, hk6, h⟩ := Option.bind_eq_some_iff.mp h
      refine x_callS C (As := [.ref (sA ek), .int p3, .int (4 : Int32)]) (rest := []) (lw_g_mk tw_770 rfl) (okL_booking l cy D B ek xs L hxs hLs p3 (4 : Int32) σ Y _ hk6) rfl rfl (by rw [hR9]; decide) (lw_g_mk tw_771 rfl) (lw_g_mk tw_0 rfl) (by decide) rfl (lw_g_mk tw_769 rfl) rfl (Nat.le_of_ble_eq_true rfl) dL_oneRoom_29 ⟨by rw [hRc]; omega, by rw [hRs]; omega⟩ ?_
      refine x_aload_n C dL_oneRoom_32 rfl 1 rfl ?_
      refine x_iload C dL_oneRoom_33 6 rfl ?_
      refine x_iconst C (v := 2) dL_oneRoom_35 (by decide) ?_
      obtain ⟨q4, hk7, h⟩ := Option.bind_eq_some_iff.mp h
      refine x_callS C (As := [.ref (sA ek), .int a8.2.2, .int (2 : Int32)]) (rest := [.int q3]) (lw_g_mk tw_764 rfl) (okL_room l cy D B ek xs L hxs hLs a8.2.2 (2 : Int32) σ Y _ hk7) rfl rfl (by rw [hR9]; decide) (lw_g_mk tw_765 rfl) (lw_g_mk tw_0 rfl) (by decide) rfl (lw_g_mk tw_763 rfl) rfl (Nat.le_of_ble_eq_true rfl) dL_oneRoom_36 ⟨by rw [hRc]; omega, by rw [hRs]; omega⟩ ?_
      have hJ16 : ∀ (t5 : Int32) (r9 : (Int32 × Int32 × Int32) ⊕ (Int32)), jL_oneRoom_82 xs L p3 a8 hd t5 = some r9 → (∀ a2, r9 = .inl a2 → (fun (a8 : Int32 × Int32 × Int32) => X p l e R s m args below meth c 10 cy D B 0 0 Q 8 [(0, .ref (sA ek)), (1, .ref aH), (2, .int p3), (3, .int a8.1), (4, .int a8.2.1), (5, .int a8.2.2)] [] σ Y) a2) → (∀ b2, r9 = .inr b2 → (fun (b8 : Int32) => X p l e R s m args below meth c 10 cy D B 0 0 Q 161 [(3, .int b8)] [] σ Y) b2) → X p l e R s m args below meth c 10 cy D B 0 0 Q 82 [(0, .ref (sA ek)), (1, .ref aH), (2, .int p3), (3, .int a8.1), (4, .int a8.2.1), (5, .int a8.2.2)] [.int t5] σ Y := by
        intro t5 r h hA1 hB2
        unfold jL_oneRoom_82 at h
        refine x_istore C [(7, .int t5), (0, .ref (sA ek)), (1, .ref aH), (2, .int p3), (3, .int a8.1), (4, .int a8.2.1), (5, .int a8.2.2)] dL_oneRoom_82 (by decide) rfl ?_
        refine x_aload_n C dL_oneRoom_84 rfl 1 rfl ?_
        refine x_aload_n C dL_oneRoom_85 rfl 2 rfl ?_
        refine x_iload_n C dL_oneRoom_86 rfl 3 rfl ?_
        refine x_iload C dL_oneRoom_87 6 rfl ?_
        obtain ⟨q6, hk8, h⟩ := Option.bind_eq_some_iff.mp h
        refine x_callS C (As := [.ref (sA ek), .ref aH, .int p3, .int a8.2.2]) (rest := []) (lw_g_mk tw_1089 rfl) (okL_free l cy D B ek xs L hxs hLs _ _ _ _ p3 a8.2.2 hd σ Y hH hR _ hk8) rfl rfl (by rw [hR9]; decide) (lw_g_mk tw_1090 rfl) (lw_g_mk tw_0 rfl) (by decide) rfl (lw_g_mk tw_1088 rfl) rfl (Nat.le_of_ble_eq_true rfl) dL_oneRoom_89 ⟨by rw [hRc]; omega, by rw [hRs]; omega⟩ ?_
        refine x_istore C [(8, .int q6), (7, .int t5), (0, .ref (sA ek)), (1, .ref aH), (2, .int p3), (3, .int a8.1), (4, .int a8.2.1), (5, .int a8.2.2)] dL_oneRoom_92 (by decide) rfl ?_
        refine x_iload C dL_oneRoom_94 1 rfl ?_
        refine x_if_eq C (tgt := 155) dL_oneRoom_96 (by decide) (fun hc9 => ?_) (fun hc9 => ?_)
        · rw [if_pos hc9] at h
          refine x_iinc C (k := 7) [(5, .int (a8.2.2 + (1 : Int32))), (8, .int q6), (7, .int t5), (0, .ref (sA ek)), (1, .ref aH), (2, .int p3), (3, .int a8.1), (4, .int a8.2.1)] dL_oneRoom_155 rfl rfl (by decide) rfl ?_
          refine x_goto C (tgt := 8) dL_oneRoom_158 (by decide) ?_
          cases h
          refine x_sub [3, 4, 5, 6, 7, 0] rfl ?_
          exact hA1 (a8.1, a8.2.1, a8.2.2 + (1 : Int32)) rfl
        · rw [if_neg hc9] at h
          refine x_iload C dL_oneRoom_99 0 rfl ?_
          refine x_aload_n C dL_oneRoom_101 rfl 2 rfl ?_
          refine x_iload_n C dL_oneRoom_102 rfl 4 rfl ?_
          obtain ⟨q7, hk10, h⟩ := Option.bind_eq_some_iff.mp h
          refine x_callS C (As := [.ref (sA ek), .int p3]) (rest := [.int q6]) (lw_g_mk tw_1059 rfl) (okL_people l cy D B ek xs L hxs hLs p3 σ Y _ hk10) rfl rfl (by rw [hR9]; decide) (lw_g_mk tw_1060 rfl) (lw_g_mk tw_0 rfl) (by decide) rfl (lw_g_mk tw_1058 rfl) rfl (Nat.le_of_ble_eq_true rfl) dL_oneRoom_103 ⟨by rw [hRc]; omega, by rw [hRs]; omega⟩ ?_
          refine x_icmp_ge C (tgt := 112) dL_oneRoom_106 (by decide) (fun hc11 => ?_) (fun hc11 => ?_)
          · rw [if_pos hc11] at h
            refine x_iload C dL_oneRoom_112 0 rfl ?_
            refine x_sipush C (v := 1000) dL_oneRoom_114 (by decide) ?_
            refine x_imul C dL_oneRoom_117 ?_
            refine x_aload_n C dL_oneRoom_118 rfl 2 rfl ?_
            refine x_iload C dL_oneRoom_119 7 rfl ?_
            refine x_iconst C (v := 3) dL_oneRoom_121 (by decide) ?_
            obtain ⟨q8, hk12, h⟩ := Option.bind_eq_some_iff.mp h
            refine x_callS C (As := [.ref (sA ek), .int a8.2.2, .int (3 : Int32)]) (rest := [.int (q6 * (1000 : Int32))]) (lw_g_mk tw_764 rfl) (okL_room l cy D B ek xs L hxs hLs a8.2.2 (3 : Int32) σ Y _ hk12) rfl rfl (by rw [hR9]; decide) (lw_g_mk tw_765 rfl) (lw_g_mk tw_0 rfl) (by decide) rfl (lw_g_mk tw_763 rfl) rfl (Nat.le_of_ble_eq_true rfl) dL_oneRoom_122 ⟨by rw [hRc]; omega, by rw [hRs]; omega⟩ ?_
            refine x_iadd C dL_oneRoom_125 ?_
            refine x_bipush C (v := 10) dL_oneRoom_126 (by decide) ?_
            refine x_imul C dL_oneRoom_128 ?_
            refine x_iload C dL_oneRoom_129 7 rfl ?_
            refine x_iadd C dL_oneRoom_131 ?_
            refine x_istore C [(9, .int ((((q6 * (1000 : Int32)) + q8) * (10 : Int32)) + a8.2.2)), (8, .int q6), (7, .int t5), (0, .ref (sA ek)), (1, .ref aH), (2, .int p3), (3, .int a8.1), (4, .int a8.2.1), (5, .int a8.2.2)] dL_oneRoom_132 (by decide) rfl ?_
            refine x_iload_n C dL_oneRoom_134 rfl 6 rfl ?_
            have hJ13 : ∀ (r9 : (Int32 × Int32 × Int32) ⊕ (Int32)), jL_oneRoom_148 a8 q6 q8 = some r9 → (∀ a2, r9 = .inl a2 → (fun (a8 : Int32 × Int32 × Int32) => X p l e R s m args below meth c 10 cy D B 0 0 Q 8 [(0, .ref (sA ek)), (1, .ref aH), (2, .int p3), (3, .int a8.1), (4, .int a8.2.1), (5, .int a8.2.2)] [] σ Y) a2) → (∀ b2, r9 = .inr b2 → (fun (b8 : Int32) => X p l e R s m args below meth c 10 cy D B 0 0 Q 161 [(3, .int b8)] [] σ Y) b2) → X p l e R s m args below meth c 10 cy D B 0 0 Q 148 [(0, .ref (sA ek)), (1, .ref aH), (2, .int p3), (5, .int a8.2.2), (9, .int ((((q6 * (1000 : Int32)) + q8) * (10 : Int32)) + a8.2.2))] [] σ Y := by
              intro r h hA1 hB2
              unfold jL_oneRoom_148 at h
              refine x_iload C dL_oneRoom_148 3 rfl ?_
              refine x_istore_n C [(3, .int a8.2.2), (0, .ref (sA ek)), (1, .ref aH), (2, .int p3), (5, .int a8.2.2), (9, .int ((((q6 * (1000 : Int32)) + q8) * (10 : Int32)) + a8.2.2))] dL_oneRoom_150 rfl (by decide) rfl ?_
              refine x_iload C dL_oneRoom_151 5 rfl ?_
              refine x_istore C [(4, .int ((((q6 * (1000 : Int32)) + q8) * (10 : Int32)) + a8.2.2)), (3, .int a8.2.2), (0, .ref (sA ek)), (1, .ref aH), (2, .int p3), (5, .int a8.2.2), (9, .int ((((q6 * (1000 : Int32)) + q8) * (10 : Int32)) + a8.2.2))] dL_oneRoom_153 (by decide) rfl ?_
              refine x_iinc C (k := 5) [(5, .int (a8.2.2 + (1 : Int32))), (4, .int ((((q6 * (1000 : Int32)) + q8) * (10 : Int32)) + a8.2.2)), (3, .int a8.2.2), (0, .ref (sA ek)), (1, .ref aH), (2, .int p3), (9, .int ((((q6 * (1000 : Int32)) + q8) * (10 : Int32)) + a8.2.2))] dL_oneRoom_155 rfl rfl (by decide) rfl ?_
              refine x_goto C (tgt := 8) dL_oneRoom_158 (by decide) ?_
              cases h
              refine x_sub [3, 4, 5, 2, 1, 0] rfl ?_
              exact hA1 (a8.2.2, (((q6 * (1000 : Int32)) + q8) * (10 : Int32)) + a8.2.2, a8.2.2 + (1 : Int32)) rfl
            refine x_if_lt C (tgt := 148) dL_oneRoom_135 (by decide) (fun hc14 => ?_) (fun hc14 => ?_)
            · rw [if_pos hc14] at h
              refine x_sub [3, 4, 5, 8, 0] rfl ?_
              exact hJ13 _ h hA1 hB2
            · rw [if_neg hc14] at h
              refine x_iload C dL_oneRoom_138 0 rfl ?_
              refine x_iload C dL_oneRoom_140 7 rfl ?_
              refine x_icmp_le C (tgt := 148) dL_oneRoom_142 (by decide) (fun hc15 => ?_) (fun hc15 => ?_)
              · rw [if_pos hc15] at h
                refine x_sub [3, 4, 5, 8, 0] rfl ?_
                exact hJ13 _ h hA1 hB2
              · rw [if_neg hc15] at h
                refine x_goto C (tgt := 155) dL_oneRoom_145 (by decide) ?_
                refine x_iinc C (k := 8) [(5, .int (a8.2.2 + (1 : Int32))), (9, .int ((((q6 * (1000 : Int32)) + q8) * (10 : Int32)) + a8.2.2)), (8, .int q6), (7, .int t5), (0, .ref (sA ek)), (1, .ref aH), (2, .int p3), (3, .int a8.1), (4, .int a8.2.1)] dL_oneRoom_155 rfl rfl (by decide) rfl ?_
                refine x_goto C (tgt := 8) dL_oneRoom_158 (by decide) ?_
                cases h
                refine x_sub [4, 5, 6, 7, 8, 0] rfl ?_
                exact hA1 (a8.1, a8.2.1, a8.2.2 + (1 : Int32)) rfl
          · rw [if_neg hc11] at h
            refine x_goto C (tgt := 155) dL_oneRoom_109 (by decide) ?_
            refine x_iinc C (k := 7) [(5, .int (a8.2.2 + (1 : Int32))), (8, .int q6), (7, .int t5), (0, .ref (sA ek)), (1, .ref aH), (2, .int p3), (3, .int a8.1), (4, .int a8.2.1)] dL_oneRoom_155 rfl rfl (by decide) rfl ?_
            refine x_goto C (tgt := 8) dL_oneRoom_158 (by decide) ?_
            cases h
            refine x_sub [3, 4, 5, 6, 7, 0] rfl ?_
            exact hA1 (a8.1, a8.2.1, a8.2.2 + (1 : Int32)) rfl
      have hJ17 : ∀ (r9 : (Int32 × Int32 × Int32) ⊕ (Int32)), jL_oneRoom_81 xs L p3 a8 hd = some r9 → (∀ a2, r9 = .inl a2 → (fun (a8 : Int32 × Int32 × Int32) => X p l e R s m args below meth c 10 cy D B 0 0 Q 8 [(0, .ref (sA ek)), (1, .ref aH), (2, .int p3), (3, .int a8.1), (4, .int a8.2.1), (5, .int a8.2.2)] [] σ Y) a2) → (∀ b2, r9 = .inr b2 → (fun (b8 : Int32) => X p l e R s m args below meth c 10 cy D B 0 0 Q 161 [(3, .int b8)] [] σ Y) b2) → X p l e R s m args below meth c 10 cy D B 0 0 Q 81 [(0, .ref (sA ek)), (1, .ref aH), (2, .int p3), (3, .int a8.1), (4, .int a8.2.1), (5, .int a8.2.2)] [] σ Y := by
        intro r h hA1 hB2
        unfold jL_oneRoom_81 at h
        refine x_iconst C (v := 0) dL_oneRoom_81 (by decide) ?_
        exact hJ16 (0 : Int32) _ h hA1 hB2
      refine x_icmp_lt C (tgt := 81) dL_oneRoom_39 (by decide) (fun hc18 => ?_) (fun hc18 => ?_)
      · rw [if_pos hc18] at h
        refine x_sub [1, 2, 3, 4, 5, 6] rfl ?_
        exact hJ17 _ h hA1 hB2
      · rw [if_neg hc18] at h
        refine x_iload C dL_oneRoom_42 0 rfl ?_
        refine x_if_eq C (tgt := 77) dL_oneRoom_44 (by decide) (fun hc19 => ?_) (fun hc19 => ?_)
        · rw [if_pos hc19] at h
          refine x_iconst C (v := 1) dL_oneRoom_77 (by decide) ?_
          refine x_goto C (tgt := 82) dL_oneRoom_78 (by decide) ?_
          refine x_sub [1, 2, 3, 4, 5, 6] rfl ?_
          exact hJ16 (1 : Int32) _ h hA1 hB2
        · rw [if_neg hc19] at h
          refine x_iload C dL_oneRoom_47 0 rfl ?_
          refine x_iconst C (v := 1) dL_oneRoom_49 (by decide) ?_
          have hJ23 : ∀ (r9 : (Int32 × Int32 × Int32) ⊕ (Int32)), jL_oneRoom_62 q2 xs L p3 a8 hd = some r9 → (∀ a2, r9 = .inl a2 → (fun (a8 : Int32 × Int32 × Int32) => X p l e R s m args below meth c 10 cy D B 0 0 Q 8 [(0, .ref (sA ek)), (1, .ref aH), (2, .int p3), (3, .int a8.1), (4, .int a8.2.1), (5, .int a8.2.2)] [] σ Y) a2) → (∀ b2, r9 = .inr b2 → (fun (b8 : Int32) => X p l e R s m args below meth c 10 cy D B 0 0 Q 161 [(3, .int b8)] [] σ Y) b2) → X p l e R s m args below meth c 10 cy D B 0 0 Q 62 [(0, .ref (sA ek)), (1, .ref aH), (2, .int p3), (3, .int a8.1), (4, .int a8.2.1), (5, .int a8.2.2), (6, .int q2)] [] σ Y := by
            intro r h hA1 hB2
            unfold jL_oneRoom_62 at h
            refine x_iload C dL_oneRoom_62 6 rfl ?_
            refine x_iconst C (v := 2) dL_oneRoom_64 (by decide) ?_
            refine x_icmp_ne C (tgt := 81) dL_oneRoom_65 (by decide) (fun hc20 => ?_) (fun hc20 => ?_)
            · rw [if_pos hc20] at h
              refine x_sub [0, 1, 2, 3, 4, 5] rfl ?_
              exact hJ17 _ h hA1 hB2
            · rw [if_neg hc20] at h
              refine x_aload_n C dL_oneRoom_68 rfl 0 rfl ?_
              refine x_iload_n C dL_oneRoom_69 rfl 2 rfl ?_
              refine x_iconst C (v := 2) dL_oneRoom_70 (by decide) ?_
              obtain ⟨q9, hk21, h⟩ := Option.bind_eq_some_iff.mp h
              refine x_callS C (As := [.ref (sA ek), .int p3, .int (2 : Int32)]) (rest := []) (lw_g_mk tw_770 rfl) (okL_booking l cy D B ek xs L hxs hLs p3 (2 : Int32) σ Y _ hk21) rfl rfl (by rw [hR9]; decide) (lw_g_mk tw_771 rfl) (lw_g_mk tw_0 rfl) (by decide) rfl (lw_g_mk tw_769 rfl) rfl (Nat.le_of_ble_eq_true rfl) dL_oneRoom_71 ⟨by rw [hRc]; omega, by rw [hRs]; omega⟩ ?_
              refine x_if_ne C (tgt := 81) dL_oneRoom_74 (by decide) (fun hc22 => ?_) (fun hc22 => ?_)
              · rw [if_pos hc22] at h
                refine x_sub [0, 1, 2, 3, 4, 5] rfl ?_
                exact hJ17 _ h hA1 hB2
              · rw [if_neg hc22] at h
                refine x_iconst C (v := 1) dL_oneRoom_77 (by decide) ?_
                refine x_goto C (tgt := 82) dL_oneRoom_78 (by decide) ?_
                refine x_sub [0, 1, 2, 3, 4, 5] rfl ?_
                exact hJ16 (1 : Int32) _ h hA1 hB2
          refine x_icmp_ne C (tgt := 62) dL_oneRoom_50 (by decide) (fun hc24 => ?_) (fun hc24 => ?_)
          · rw [if_pos hc24] at h
            refine x_sub [1, 2, 3, 4, 5, 6, 0] rfl ?_
            exact hJ23 _ h hA1 hB2
          · rw [if_neg hc24] at h
            refine x_aload_n C dL_oneRoom_53 rfl 1 rfl ?_
            refine x_iload_n C dL_oneRoom_54 rfl 3 rfl ?_
            refine x_iconst C (v := 3) dL_oneRoom_55 (by decide) ?_
            obtain ⟨q10, hk25, h⟩ := Option.bind_eq_some_iff.mp h
            refine x_callS C (As := [.ref (sA ek), .int p3, .int (3 : Int32)]) (rest := []) (lw_g_mk tw_770 rfl) (okL_booking l cy D B ek xs L hxs hLs p3 (3 : Int32) σ Y _ hk25) rfl rfl (by rw [hR9]; decide) (lw_g_mk tw_771 rfl) (lw_g_mk tw_0 rfl) (by decide) rfl (lw_g_mk tw_769 rfl) rfl (Nat.le_of_ble_eq_true rfl) dL_oneRoom_56 ⟨by rw [hRc]; omega, by rw [hRs]; omega⟩ ?_
            refine x_if_eq C (tgt := 77) dL_oneRoom_59 (by decide) (fun hc26 => ?_) (fun hc26 => ?_)
            · rw [if_pos hc26] at h
              refine x_iconst C (v := 1) dL_oneRoom_77 (by decide) ?_
              refine x_goto C (tgt := 82) dL_oneRoom_78 (by decide) ?_
              refine x_sub [1, 2, 3, 4, 5, 6] rfl ?_
              exact hJ16 (1 : Int32) _ h hA1 hB2
            · rw [if_neg hc26] at h
              refine x_sub [1, 2, 3, 4, 5, 6, 0] rfl ?_
              exact hJ23 _ h hA1 hB2
  · show X p l e R s m args below meth c 10 cy D B 0 0 Q 161 [(3, .int b8)] [] σ Y
    refine x_iload_n C dL_oneRoom_161 rfl 0 rfl ?_
    refine x_iconst C (v := 1) dL_oneRoom_162 (by decide) ?_
    refine x_iadd C dL_oneRoom_163 ?_
    cases h
    exact hret _ _ dL_oneRoom_164 rfl
def stL_isEnough_8 (xs : (Nat → Int32)) (L : Nat) (p4 : Int32) (p3 : Int32) (hd : (Nat → Nat → Int32)) (a8 : Int32 × (Nat → Int32)) : Option ((Int32 × (Nat → Int32)) ⊕ (((Nat → Int32)) ⊕ (Int32))) := ((fL_roomsOf xs L).bind fun q1 => (if q1 ≤ a8.1 then (some (.inr (.inl a8.2))) else (if ¬ ((p4 >>> (a8.1 &&& 31)) &&& (1 : Int32)) = 0 then ((fL_booking xs L p3 (4 : Int32)).bind fun q2 => ((fL_room xs L a8.1 (2 : Int32)).bind fun q3 => (if q3 ≤ q2 then ((fL_room xs L a8.1 (0 : Int32)).bind fun q4 => (gd (inb q4 3) ((fL_free xs L p3 a8.1 hd).bind fun q5 => (some (.inl (a8.1 + (1 : Int32), upd a8.2 q4.toNatClampNeg ((a8.2 q4.toNatClampNeg) + q5))))))) else (some (.inr (.inr ((0 : Int32)))))))) else (some (.inl (a8.1 + (1 : Int32), a8.2))))))
def fL_isEnough (xs : Nat → Int32) (L : Nat) (p3 : Int32) (p4 : Int32) (hd : (Nat → Nat → Int32)) : Option (Int32) := ((loop (stL_isEnough_8 xs L p4 p3 hd) 5000 ((0 : Int32), (fun _ => 0))).bind fun b8 => Sum.elim (fun z8 => ((fL_booking xs L p3 (2 : Int32)).bind fun q6 => ((fL_booking xs L p3 (3 : Int32)).bind fun q7 => (if (z8 (0 : Int32).toNatClampNeg) < ((if (0 : Int32) < (q6 - (z8 (1 : Int32).toNatClampNeg)) then (q6 - (z8 (1 : Int32).toNatClampNeg)) else (0 : Int32)) + (if (0 : Int32) < (q7 - (z8 (2 : Int32).toNatClampNeg)) then (q7 - (z8 (2 : Int32).toNatClampNeg)) else (0 : Int32))) then (some ((0 : Int32))) else (some ((1 : Int32))))))) (fun w8 => (some w8)) b8)
set_option maxHeartbeats 4000000 in
set_option maxRecDepth 100000 in
theorem okL_isEnough (l : Launch) (cy : Nat → ClassId) (D : va_G) (B : Nat) (ek : EK) (xs : Nat → Int32) (L : Nat) (hxs : xs = sX ek) (hLs : L = sL ek) (aH : Nat) (aR : Nat → Nat) (iH : Nat) (iR : Nat) (p3 : Int32) (p4 : Int32) (hd : (Nat → Nat → Int32)) (σ : Mem) (Y : va_W) (hH : Y[iH]? = some (cHd cy aH aR)) (hR : ∀ k, k < 40 → Y[iR + k]? = some (cRw cy (aR k) (hd k))) (res : Int32) (h : fL_isEnough xs L p3 p4 hd = some res) : CTE l cy D B ek yL_isEnough cL_isEnough 6 (some .boolean) ({ frames := 5, cells := 1, slots := 3, locals := 117 } : Room) 1 3 [.ref (sA ek), .ref aH, .int p3, .int p4] σ Y (fun v9 σ9 Y9 => v9 = (some (.int res)) ∧ σ9 = σ ∧ Y9 = Y) := by
  refine met_XE (own := "HostelBedsLaw") (by decide) rfl (Nat.le_of_ble_eq_true rfl) ?_
  intro p e s m args below meth c C hrT hlk
  have hret : ∀ (cells9 slots9 pc9 : Nat) (lcs9 : List (Nat × Value)), decode cL_isEnough pc9 = .ok (.ireturn, 1) → narrow .boolean (.int res) = .int res → cells9 ≤ 1 → slots9 ≤ 3 → X p l e ({ frames := 5, cells := 1, slots := 3, locals := 117 } : Room) s m args below meth c 6 cy D B cells9 slots9 (MQ below (QE cy D B (fun v9 σ9 Y9 => v9 = (some (.int res)) ∧ σ9 = σ ∧ Y9 = Y)) args s 1 3 (aB B)) pc9 lcs9 [.int res] σ Y := fun cells9 slots9 pc9 lcs9 hd hn h1 h2 => x_zretE C hrT hlk hn hd h1 h2 ⟨rfl, rfl, rfl⟩
  generalize (MQ below (QE cy D B (fun v9 σ9 Y9 => v9 = (some (.int res)) ∧ σ9 = σ ∧ Y9 = Y)) args s 1 3 (aB B)) = Q at hret ⊢
  obtain ⟨R, hR9⟩ : ∃ R : Room, R = ({ frames := 5, cells := 1, slots := 3, locals := 117 } : Room) := ⟨_, rfl⟩
  rw [← hR9] at hret ⊢
  have hRc : R.cells = 1 := by rw [hR9]
  have hRs : R.slots = 3 := by rw [hR9]
  unfold fL_isEnough at h
  show X p l e R s m args below meth c 6 cy D B 0 0 Q 0 [(0, .ref (sA ek)), (1, .ref aH), (2, .int p3), (3, .int p4)] [] σ Y
  refine x_iconst C (v := 3) dL_isEnough_0 (by decide) ?_
  refine x_newI C (lw_g_mk tw_105 rfl) (z := 3) (by decide) (by decide) (by decide) (by rw [hRc]; omega) (by rw [hRs]; omega) dL_isEnough_1 (fun aP => ?_)
  refine x_astore C [(4, .ref aP), (0, .ref (sA ek)), (1, .ref aH), (2, .int p3), (3, .int p4)] dL_isEnough_3 (by decide) rfl ?_
  refine x_iconst C (v := 0) dL_isEnough_5 (by decide) ?_
  refine x_istore C [(5, .int (0 : Int32)), (4, .ref aP), (0, .ref (sA ek)), (1, .ref aH), (2, .int p3), (3, .int p4)] dL_isEnough_6 (by decide) rfl ?_
  obtain ⟨b8, hk12, h⟩ := Option.bind_eq_some_iff.mp h
  refine x_sub [2, 3, 4, 5, 1, 0] rfl ?_
  refine loop_run (step := stL_isEnough_8 xs L p4 p3 hd) (P := fun (a8 : Int32 × (Nat → Int32)) => X p l e R s m args below meth c 6 cy D B (0 + 1) (0 + 3) Q 8 [(0, .ref (sA ek)), (1, .ref aH), (2, .int p3), (3, .int p4), (4, .ref aP), (5, .int a8.1)] [] σ (Y ++ [cPl cy aP a8.2])) (K := fun (b8 : ((Nat → Int32)) ⊕ (Int32)) => Sum.elim (fun z8 => X p l e R s m args below meth c 6 cy D B (0 + 1) (0 + 3) Q 74 [(0, .ref (sA ek)), (2, .int p3), (4, .ref aP)] [] σ (Y ++ [cPl cy aP z8])) (fun w8 => ∀ (cells9 slots9 pc9 : Nat) (lcs9 : List (Nat × Value)), decode cL_isEnough pc9 = .ok (.ireturn, 1) → narrow .boolean (.int w8) = .int w8 → cells9 ≤ 1 → slots9 ≤ 3 → X p l e R s m args below meth c 6 cy D B cells9 slots9 Q pc9 lcs9 [.int w8] σ Y) b8) ?_ 5000 ((0 : Int32), (fun _ => 0)) b8 hk12 ?_
  · intro a8 r h hA1 hB2
    unfold stL_isEnough_8 at h
    refine x_iload C dL_isEnough_8 5 rfl ?_
    refine x_aload_n C dL_isEnough_10 rfl 0 rfl ?_
    obtain ⟨q1, hk3, h⟩ := Option.bind_eq_some_iff.mp h
    refine x_callS C (As := [.ref (sA ek)]) (rest := [.int a8.1]) (lw_g_mk tw_761 rfl) (okL_roomsOf l cy D B ek xs L hxs hLs σ (Y ++ [cPl cy aP a8.2]) _ hk3) rfl rfl (by rw [hR9]; decide) (lw_g_mk tw_762 rfl) (lw_g_mk tw_0 rfl) (by decide) rfl (lw_g_mk tw_760 rfl) rfl (Nat.le_of_ble_eq_true rfl) dL_isEnough_11 ⟨by rw [hRc]; omega, by rw [hRs]; omega⟩ ?_
    refine x_icmp_ge C (tgt := 74) dL_isEnough_14 (by decide) (fun hc4 => ?_) (fun hc4 => ?_)
    · rw [if_pos hc4] at h
      cases h
      refine x_sub [0, 2, 4] rfl ?_
      exact hB2 (.inl a8.2) rfl
    · rw [if_neg hc4] at h
      refine x_iload_n C dL_isEnough_17 rfl 3 rfl ?_
      refine x_iload C dL_isEnough_18 5 rfl ?_
      refine x_ishr C dL_isEnough_20 ?_
      refine x_iconst C (v := 1) dL_isEnough_21 (by decide) ?_
      refine x_iand C dL_isEnough_22 ?_
      refine x_if_ne C (tgt := 29) dL_isEnough_23 (by decide) (fun hc5 => ?_) (fun hc5 => ?_)
      · rw [if_pos hc5] at h
        refine x_aload_n C dL_isEnough_29 rfl 0 rfl ?_
        refine x_iload_n C dL_isEnough_30 rfl 2 rfl ?_
        refine x_iconst C (v := 4) dL_isEnough_31 (by decide) ?_
        obtain ⟨q2, hk6, h⟩ := Option.bind_eq_some_iff.mp h
        refine x_callS C (As := [.ref (sA ek), .int p3, .int (4 : Int32)]) (rest := []) (lw_g_mk tw_770 rfl) (okL_booking l cy D B ek xs L hxs hLs p3 (4 : Int32) σ (Y ++ [cPl cy aP a8.2]) _ hk6) rfl rfl (by rw [hR9]; decide) (lw_g_mk tw_771 rfl) (lw_g_mk tw_0 rfl) (by decide) rfl (lw_g_mk tw_769 rfl) rfl (Nat.le_of_ble_eq_true rfl) dL_isEnough_32 ⟨by rw [hRc]; omega, by rw [hRs]; omega⟩ ?_
        refine x_aload_n C dL_isEnough_35 rfl 0 rfl ?_
        refine x_iload C dL_isEnough_36 5 rfl ?_
        refine x_iconst C (v := 2) dL_isEnough_38 (by decide) ?_
        obtain ⟨q3, hk7, h⟩ := Option.bind_eq_some_iff.mp h
        refine x_callS C (As := [.ref (sA ek), .int a8.1, .int (2 : Int32)]) (rest := [.int q2]) (lw_g_mk tw_764 rfl) (okL_room l cy D B ek xs L hxs hLs a8.1 (2 : Int32) σ (Y ++ [cPl cy aP a8.2]) _ hk7) rfl rfl (by rw [hR9]; decide) (lw_g_mk tw_765 rfl) (lw_g_mk tw_0 rfl) (by decide) rfl (lw_g_mk tw_763 rfl) rfl (Nat.le_of_ble_eq_true rfl) dL_isEnough_39 ⟨by rw [hRc]; omega, by rw [hRs]; omega⟩ ?_
        refine x_icmp_ge C (tgt := 47) dL_isEnough_42 (by decide) (fun hc8 => ?_) (fun hc8 => ?_)
        · rw [if_pos hc8] at h
          refine x_aload C dL_isEnough_47 4 rfl ?_
          refine x_aload_n C dL_isEnough_49 rfl 0 rfl ?_
          refine x_iload C dL_isEnough_50 5 rfl ?_
          refine x_iconst C (v := 0) dL_isEnough_52 (by decide) ?_
          obtain ⟨q4, hk9, h⟩ := Option.bind_eq_some_iff.mp h
          refine x_callS C (As := [.ref (sA ek), .int a8.1, .int (0 : Int32)]) (rest := [.ref aP]) (lw_g_mk tw_764 rfl) (okL_room l cy D B ek xs L hxs hLs a8.1 (0 : Int32) σ (Y ++ [cPl cy aP a8.2]) _ hk9) rfl rfl (by rw [hR9]; decide) (lw_g_mk tw_765 rfl) (lw_g_mk tw_0 rfl) (by decide) rfl (lw_g_mk tw_763 rfl) rfl (Nat.le_of_ble_eq_true rfl) dL_isEnough_53 ⟨by rw [hRc]; omega, by rw [hRs]; omega⟩ ?_
          refine x_dup2 C dL_isEnough_56 rfl rfl ?_
          obtain ⟨hg10, h⟩ := gd_some h
          refine x_iald C _ (wl_ex pu_0) hg10 dL_isEnough_57 ?_
          refine x_aload_n C dL_isEnough_58 rfl 0 rfl ?_
          refine x_aload_n C dL_isEnough_59 rfl 1 rfl ?_
          refine x_iload_n C dL_isEnough_60 rfl 2 rfl ?_
          refine x_iload C dL_isEnough_61 5 rfl ?_
          obtain ⟨q5, hk11, h⟩ := Option.bind_eq_some_iff.mp h
          refine x_callS C (As := [.ref (sA ek), .ref aH, .int p3, .int a8.1]) (rest := [.int (a8.2 q4.toNatClampNeg), .int q4, .ref aP]) (lw_g_mk tw_1089 rfl) (okL_free l cy D B ek xs L hxs hLs _ _ _ _ p3 a8.1 hd σ (Y ++ [cPl cy aP a8.2]) (ap_some hH) (fun _ h => ap_some (hR _ h)) _ hk11) rfl rfl (by rw [hR9]; decide) (lw_g_mk tw_1090 rfl) (lw_g_mk tw_0 rfl) (by decide) rfl (lw_g_mk tw_1088 rfl) rfl (Nat.le_of_ble_eq_true rfl) dL_isEnough_63 ⟨by rw [hRc]; omega, by rw [hRs]; omega⟩ ?_
          refine x_iadd C dL_isEnough_66 ?_
          refine x_iast C _ (wl_ex pu_0) hg10 dL_isEnough_67 (wl_exs ps_0) ?_
          refine x_iinc C (k := 5) [(5, .int (a8.1 + (1 : Int32))), (0, .ref (sA ek)), (1, .ref aH), (2, .int p3), (3, .int p4), (4, .ref aP)] dL_isEnough_68 rfl rfl (by decide) rfl ?_
          refine x_goto C (tgt := 8) dL_isEnough_71 (by decide) ?_
          cases h
          refine x_sub [1, 2, 3, 4, 5, 0] rfl ?_
          exact hA1 (a8.1 + (1 : Int32), upd a8.2 q4.toNatClampNeg ((a8.2 q4.toNatClampNeg) + q5)) rfl
        · rw [if_neg hc8] at h
          refine x_iconst C (v := 0) dL_isEnough_45 (by decide) ?_
          cases h
          refine x_drop _ ?_
          exact hB2 (.inr ((0 : Int32))) rfl _ _ _ _ dL_isEnough_46 (nar_Z (Or.inl rfl)) (by omega) (by omega)
      · rw [if_neg hc5] at h
        refine x_goto C (tgt := 68) dL_isEnough_26 (by decide) ?_
        refine x_iinc C (k := 5) [(5, .int (a8.1 + (1 : Int32))), (0, .ref (sA ek)), (1, .ref aH), (2, .int p3), (3, .int p4), (4, .ref aP)] dL_isEnough_68 rfl rfl (by decide) rfl ?_
        refine x_goto C (tgt := 8) dL_isEnough_71 (by decide) ?_
        cases h
        refine x_sub [1, 2, 3, 4, 5, 0] rfl ?_
        exact hA1 (a8.1 + (1 : Int32), a8.2) rfl
  · rcases b8 with z8 | w8
    · rw [Sum.elim_inl] at h
      show X p l e R s m args below meth c 6 cy D B (0 + 1) (0 + 3) Q 74 [(0, .ref (sA ek)), (2, .int p3), (4, .ref aP)] [] σ (Y ++ [cPl cy aP z8])
      refine x_iconst C (v := 0) dL_isEnough_74 (by decide) ?_
      refine x_aload_n C dL_isEnough_75 rfl 0 rfl ?_
      refine x_iload_n C dL_isEnough_76 rfl 1 rfl ?_
      refine x_iconst C (v := 2) dL_isEnough_77 (by decide) ?_
      obtain ⟨q6, hk13, h⟩ := Option.bind_eq_some_iff.mp h
      refine x_callS C (As := [.ref (sA ek), .int p3, .int (2 : Int32)]) (rest := [.int (0 : Int32)]) (lw_g_mk tw_770 rfl) (okL_booking l cy D B ek xs L hxs hLs p3 (2 : Int32) σ (Y ++ [cPl cy aP z8]) _ hk13) rfl rfl (by rw [hR9]; decide) (lw_g_mk tw_771 rfl) (lw_g_mk tw_0 rfl) (by decide) rfl (lw_g_mk tw_769 rfl) rfl (Nat.le_of_ble_eq_true rfl) dL_isEnough_78 ⟨by rw [hRc]; omega, by rw [hRs]; omega⟩ ?_
      refine x_aload C dL_isEnough_81 2 rfl ?_
      refine x_iconst C (v := 1) dL_isEnough_83 (by decide) ?_
      refine x_iald C _ (wl_ex pu_0) (by decide : inb (1 : Int32) 3) dL_isEnough_84 ?_
      refine x_isub C dL_isEnough_85 ?_
      refine x_mmax C (lw_g_mk tw_1098 rfl) (lw_g_mk tw_744 rfl) (lw_g_mk tw_16 rfl) (lw_g_mk tw_745 rfl) (by rw [hR9]; decide) (by rw [hR9]; exact Nat.le_of_ble_eq_true rfl) (by rw [hR9]; decide) dL_isEnough_86 ?_
      refine x_iconst C (v := 0) dL_isEnough_89 (by decide) ?_
      refine x_aload_n C dL_isEnough_90 rfl 0 rfl ?_
      refine x_iload_n C dL_isEnough_91 rfl 1 rfl ?_
      refine x_iconst C (v := 3) dL_isEnough_92 (by decide) ?_
      obtain ⟨q7, hk14, h⟩ := Option.bind_eq_some_iff.mp h
      refine x_callS C (As := [.ref (sA ek), .int p3, .int (3 : Int32)]) (rest := [.int (0 : Int32), .int (if (0 : Int32) < (q6 - (z8 (1 : Int32).toNatClampNeg)) then (q6 - (z8 (1 : Int32).toNatClampNeg)) else (0 : Int32))]) (lw_g_mk tw_770 rfl) (okL_booking l cy D B ek xs L hxs hLs p3 (3 : Int32) σ (Y ++ [cPl cy aP z8]) _ hk14) rfl rfl (by rw [hR9]; decide) (lw_g_mk tw_771 rfl) (lw_g_mk tw_0 rfl) (by decide) rfl (lw_g_mk tw_769 rfl) rfl (Nat.le_of_ble_eq_true rfl) dL_isEnough_93 ⟨by rw [hRc]; omega, by rw [hRs]; omega⟩ ?_
      refine x_aload C dL_isEnough_96 2 rfl ?_
      refine x_iconst C (v := 2) dL_isEnough_98 (by decide) ?_
      refine x_iald C _ (wl_ex pu_0) (by decide : inb (2 : Int32) 3) dL_isEnough_99 ?_
      refine x_isub C dL_isEnough_100 ?_
      refine x_mmax C (lw_g_mk tw_1098 rfl) (lw_g_mk tw_744 rfl) (lw_g_mk tw_16 rfl) (lw_g_mk tw_745 rfl) (by rw [hR9]; decide) (by rw [hR9]; exact Nat.le_of_ble_eq_true rfl) (by rw [hR9]; decide) dL_isEnough_101 ?_
      refine x_iadd C dL_isEnough_104 ?_
      refine x_aload C dL_isEnough_105 2 rfl ?_
      refine x_iconst C (v := 0) dL_isEnough_107 (by decide) ?_
      refine x_iald C _ (wl_ex pu_0) (by decide : inb (0 : Int32) 3) dL_isEnough_108 ?_
      refine x_icmp_gt C (tgt := 116) dL_isEnough_109 (by decide) (fun hc15 => ?_) (fun hc15 => ?_)
      · rw [if_pos hc15] at h
        refine x_iconst C (v := 0) dL_isEnough_116 (by decide) ?_
        cases h
        refine x_drop _ ?_
        exact hret _ _ _ _ dL_isEnough_117 (nar_Z (Or.inl rfl)) (by omega) (by omega)
      · rw [if_neg hc15] at h
        refine x_iconst C (v := 1) dL_isEnough_112 (by decide) ?_
        refine x_goto C (tgt := 117) dL_isEnough_113 (by decide) ?_
        cases h
        refine x_drop _ ?_
        exact hret _ _ _ _ dL_isEnough_117 (nar_Z (Or.inr rfl)) (by omega) (by omega)
    · rw [Sum.elim_inr] at h
      show ∀ (cells9 slots9 pc9 : Nat) (lcs9 : List (Nat × Value)), decode cL_isEnough pc9 = .ok (.ireturn, 1) → narrow .boolean (.int w8) = .int w8 → cells9 ≤ 1 → slots9 ≤ 3 → X p l e R s m args below meth c 6 cy D B cells9 slots9 Q pc9 lcs9 [.int w8] σ Y
      cases h
      exact hret
def jL_rooms_62 (xs : (Nat → Int32)) (L : Nat) (p3 : Int32) (a23 : Int32 × Int32) (hd : (Nat → Nat → Int32)) : Option ((Int32 × Int32) ⊕ (Int32)) := ((fL_isEnough xs L p3 a23.2 hd).bind fun q4 => (if q4 = 0 then (some (.inl (a23.1, a23.2 + (1 : Int32)))) else (some (.inl (a23.2, a23.2 + (1 : Int32))))))
def stL_rooms_23 (xs : (Nat → Int32)) (L : Nat) (p3 : Int32) (hd : (Nat → Nat → Int32)) (a23 : Int32 × Int32) : Option ((Int32 × Int32) ⊕ (Int32)) := ((fL_roomsOf xs L).bind fun q2 => (if ((1 : Int32) <<< (q2 &&& 31)) ≤ a23.2 then (some (.inr a23.1)) else ((fL_booking xs L p3 (6 : Int32)).bind fun q3 => (if ¬ q3 = 0 then (some (.inr a23.1)) else (if a23.1 = 0 then (jL_rooms_62 xs L p3 a23 hd) else ((fJ6_bitCount_0f7a4 a23.2).bind fun q5 => ((fJ6_bitCount_0f7a4 a23.1).bind fun q6 => (if q6 ≤ q5 then (some (.inl (a23.1, a23.2 + (1 : Int32)))) else (jL_rooms_62 xs L p3 a23 hd)))))))))
def fL_rooms (xs : Nat → Int32) (L : Nat) (p3 : Int32) (hd : (Nat → Nat → Int32)) : Option (Int32) := ((fL_oneRoom xs L p3 hd).bind fun q1 => (if q1 ≤ 0 then ((loop (stL_rooms_23 xs L p3 hd) 17 ((0 : Int32), (1 : Int32))).bind fun b23 => (some b23)) else (some ((1 : Int32) <<< ((q1 - (1 : Int32)) &&& 31)))))
set_option maxHeartbeats 4000000 in
set_option maxRecDepth 100000 in
theorem okL_rooms (l : Launch) (cy : Nat → ClassId) (D : va_G) (B : Nat) (ek : EK) (xs : Nat → Int32) (L : Nat) (hxs : xs = sX ek) (hLs : L = sL ek) (aH : Nat) (aR : Nat → Nat) (iH : Nat) (iR : Nat) (p3 : Int32) (hd : (Nat → Nat → Int32)) (σ : Mem) (Y : va_W) (hH : Y[iH]? = some (cHd cy aH aR)) (hR : ∀ k, k < 40 → Y[iR + k]? = some (cRw cy (aR k) (hd k))) (res : Int32) (h : fL_rooms xs L p3 hd = some res) : CTE l cy D B ek yL_rooms cL_rooms 6 (some .int) ({ frames := 6, cells := 17, slots := 51, locals := 146 } : Room) 17 51 [.ref (sA ek), .ref aH, .int p3] σ Y (fun v9 σ9 Y9 => v9 = (some (.int res)) ∧ σ9 = σ ∧ Y9 = Y) := by
  refine met_XE (own := "HostelBedsLaw") (by decide) rfl (Nat.le_of_ble_eq_true rfl) ?_
  intro p e s m args below meth c C hrT hlk
  have hret : ∀ (cells9 slots9 pc9 : Nat) (lcs9 : List (Nat × Value)), decode cL_rooms pc9 = .ok (.ireturn, 1) → narrow .int (.int res) = .int res → cells9 ≤ 17 → slots9 ≤ 51 → X p l e ({ frames := 6, cells := 17, slots := 51, locals := 146 } : Room) s m args below meth c 6 cy D B cells9 slots9 (MQ below (QE cy D B (fun v9 σ9 Y9 => v9 = (some (.int res)) ∧ σ9 = σ ∧ Y9 = Y)) args s 17 51 (aB B)) pc9 lcs9 [.int res] σ Y := fun cells9 slots9 pc9 lcs9 hd hn h1 h2 => x_zretE C hrT hlk hn hd h1 h2 ⟨rfl, rfl, rfl⟩
  generalize (MQ below (QE cy D B (fun v9 σ9 Y9 => v9 = (some (.int res)) ∧ σ9 = σ ∧ Y9 = Y)) args s 17 51 (aB B)) = Q at hret ⊢
  obtain ⟨R, hR9⟩ : ∃ R : Room, R = ({ frames := 6, cells := 17, slots := 51, locals := 146 } : Room) := ⟨_, rfl⟩
  rw [← hR9] at hret ⊢
  have hRc : R.cells = 17 := by rw [hR9]
  have hRs : R.slots = 51 := by rw [hR9]
  unfold fL_rooms at h
  show X p l e R s m args below meth c 6 cy D B 0 0 Q 0 [(0, .ref (sA ek)), (1, .ref aH), (2, .int p3)] [] σ Y
  refine x_aload_n C dL_rooms_0 rfl 0 rfl ?_
  refine x_aload_n C dL_rooms_1 rfl 1 rfl ?_
  refine x_iload_n C dL_rooms_2 rfl 2 rfl ?_
  obtain ⟨q1, hk1, h⟩ := Option.bind_eq_some_iff.mp h
  refine x_callS C (As := [.ref (sA ek), .ref aH, .int p3]) (rest := []) (lw_g_mk tw_1086 rfl) (okL_oneRoom l cy D B ek xs L hxs hLs _ _ _ _ p3 hd σ Y hH hR _ hk1) rfl rfl (by rw [hR9]; decide) (lw_g_mk tw_1087 rfl) (lw_g_mk tw_0 rfl) (by decide) rfl (lw_g_mk tw_1085 rfl) rfl (Nat.le_of_ble_eq_true rfl) dL_rooms_3 ⟨by rw [hRc]; omega, by rw [hRs]; omega⟩ ?_
  refine x_istore_n C [(3, .int q1), (0, .ref (sA ek)), (1, .ref aH), (2, .int p3)] dL_rooms_6 rfl (by decide) rfl ?_
  refine x_iload_n C dL_rooms_7 rfl 0 rfl ?_
  refine x_if_le C (tgt := 17) dL_rooms_8 (by decide) (fun hc2 => ?_) (fun hc2 => ?_)
  · rw [if_pos hc2] at h
    refine x_iconst C (v := 0) dL_rooms_17 (by decide) ?_
    refine x_istore C [(4, .int (0 : Int32)), (3, .int q1), (0, .ref (sA ek)), (1, .ref aH), (2, .int p3)] dL_rooms_18 (by decide) rfl ?_
    refine x_iconst C (v := 1) dL_rooms_20 (by decide) ?_
    refine x_istore C [(5, .int (1 : Int32)), (4, .int (0 : Int32)), (3, .int q1), (0, .ref (sA ek)), (1, .ref aH), (2, .int p3)] dL_rooms_21 (by decide) rfl ?_
    obtain ⟨b23, hk16, h⟩ := Option.bind_eq_some_iff.mp h
    refine x_sub [3, 4, 5, 1, 0] rfl ?_
    refine x_widen (cells2 := (0 + (17 - 17) * 1)) (slots2 := (0 + (17 - 17) * 3)) (by omega) (by omega) ?_
    refine loop_runN (N := 17) (step := stL_rooms_23 xs L p3 hd) (P := fun (n23 : Nat) (a23 : Int32 × Int32) => X p l e R s m args below meth c 6 cy D B (0 + (17 - n23) * 1) (0 + (17 - n23) * 3) Q 23 [(0, .ref (sA ek)), (1, .ref aH), (2, .int p3), (4, .int a23.1), (5, .int a23.2)] [] σ Y) (K := fun (b23 : Int32) => X p l e R s m args below meth c 6 cy D B (0 + 17) (0 + 51) Q 83 [(4, .int b23)] [] σ Y) ?_ 17 ((0 : Int32), (1 : Int32)) b23 (Nat.le_refl _) hk16 ?_
    · intro n23 a23 r hn23 h hA3 hB4
      unfold stL_rooms_23 at h
      refine x_iload C dL_rooms_23 4 rfl ?_
      refine x_iconst C (v := 1) dL_rooms_25 (by decide) ?_
      refine x_aload_n C dL_rooms_26 rfl 0 rfl ?_
      obtain ⟨q2, hk5, h⟩ := Option.bind_eq_some_iff.mp h
      refine x_callS C (As := [.ref (sA ek)]) (rest := [.int (1 : Int32), .int a23.2]) (lw_g_mk tw_761 rfl) (okL_roomsOf l cy D B ek xs L hxs hLs σ Y _ hk5) rfl rfl (by rw [hR9]; decide) (lw_g_mk tw_762 rfl) (lw_g_mk tw_0 rfl) (by decide) rfl (lw_g_mk tw_760 rfl) rfl (Nat.le_of_ble_eq_true rfl) dL_rooms_27 ⟨by rw [hRc]; omega, by rw [hRs]; omega⟩ ?_
      refine x_ishl C dL_rooms_30 ?_
      refine x_icmp_ge C (tgt := 83) dL_rooms_31 (by decide) (fun hc6 => ?_) (fun hc6 => ?_)
      · rw [if_pos hc6] at h
        cases h
        refine x_widen (cells2 := (0 + 17)) (slots2 := (0 + 51)) (by omega) (by omega) ?_
        refine x_sub [3] rfl ?_
        exact hB4 a23.1 rfl
      · rw [if_neg hc6] at h
        refine x_aload_n C dL_rooms_34 rfl 0 rfl ?_
        refine x_iload_n C dL_rooms_35 rfl 2 rfl ?_
        refine x_bipush C (v := 6) dL_rooms_36 (by decide) ?_
        obtain ⟨q3, hk7, h⟩ := Option.bind_eq_some_iff.mp h
        refine x_callS C (As := [.ref (sA ek), .int p3, .int (6 : Int32)]) (rest := []) (lw_g_mk tw_770 rfl) (okL_booking l cy D B ek xs L hxs hLs p3 (6 : Int32) σ Y _ hk7) rfl rfl (by rw [hR9]; decide) (lw_g_mk tw_771 rfl) (lw_g_mk tw_0 rfl) (by decide) rfl (lw_g_mk tw_769 rfl) rfl (Nat.le_of_ble_eq_true rfl) dL_rooms_38 ⟨by rw [hRc]; omega, by rw [hRs]; omega⟩ ?_
        refine x_if_ne C (tgt := 83) dL_rooms_41 (by decide) (fun hc8 => ?_) (fun hc8 => ?_)
        · rw [if_pos hc8] at h
          cases h
          refine x_widen (cells2 := (0 + 17)) (slots2 := (0 + 51)) (by omega) (by omega) ?_
          refine x_sub [3] rfl ?_
          exact hB4 a23.1 rfl
        · rw [if_neg hc8] at h
          refine x_iload C dL_rooms_44 3 rfl ?_
          have hJ11 : ∀ (r9 : (Int32 × Int32) ⊕ (Int32)), jL_rooms_62 xs L p3 a23 hd = some r9 → (∀ a2, r9 = .inl a2 → (fun (n23 : Nat) (a23 : Int32 × Int32) => X p l e R s m args below meth c 6 cy D B (0 + (17 - n23) * 1) (0 + (17 - n23) * 3) Q 23 [(0, .ref (sA ek)), (1, .ref aH), (2, .int p3), (4, .int a23.1), (5, .int a23.2)] [] σ Y) n23 a2) → (∀ b2, r9 = .inr b2 → (fun (b23 : Int32) => X p l e R s m args below meth c 6 cy D B (0 + 17) (0 + 51) Q 83 [(4, .int b23)] [] σ Y) b2) → X p l e R s m args below meth c 6 cy D B (0 + (17 - (n23 + 1)) * 1) (0 + (17 - (n23 + 1)) * 3) Q 62 [(0, .ref (sA ek)), (1, .ref aH), (2, .int p3), (4, .int a23.1), (5, .int a23.2)] [] σ Y := by
            intro r h hA3 hB4
            unfold jL_rooms_62 at h
            refine x_aload_n C dL_rooms_62 rfl 0 rfl ?_
            refine x_aload_n C dL_rooms_63 rfl 1 rfl ?_
            refine x_iload_n C dL_rooms_64 rfl 2 rfl ?_
            refine x_iload C dL_rooms_65 4 rfl ?_
            obtain ⟨q4, hk9, h⟩ := Option.bind_eq_some_iff.mp h
            refine x_callSE C (As := [.ref (sA ek), .ref aH, .int p3, .int a23.2]) (rest := []) (lw_g_mk tw_1096 rfl) (okL_isEnough l cy D B ek xs L hxs hLs _ _ _ _ p3 a23.2 hd σ Y hH hR _ hk9) rfl rfl (by rw [hR9]; decide) (lw_g_mk tw_1097 rfl) (lw_g_mk tw_0 rfl) (by decide) rfl (lw_g_mk tw_1095 rfl) rfl (Nat.le_of_ble_eq_true rfl) dL_rooms_67 ⟨by rw [hRc]; omega, by rw [hRs]; omega⟩ (fun v9 σ9 Y9 hp9 => ?_)
            obtain ⟨e7, e8, e9⟩ := hp9
            rw [e7, e8, e9]
            refine x_if_eq C (tgt := 77) dL_rooms_70 (by decide) (fun hc10 => ?_) (fun hc10 => ?_)
            · rw [if_pos hc10] at h
              refine x_iinc C (k := 4) [(5, .int (a23.2 + (1 : Int32))), (0, .ref (sA ek)), (1, .ref aH), (2, .int p3), (4, .int a23.1)] dL_rooms_77 rfl rfl (by decide) rfl ?_
              refine x_goto C (tgt := 23) dL_rooms_80 (by decide) ?_
              cases h
              refine x_widen (cells2 := (0 + (17 - n23) * 1)) (slots2 := (0 + (17 - n23) * 3)) (by omega) (by omega) ?_
              refine x_sub [1, 2, 3, 4, 0] rfl ?_
              exact hA3 (a23.1, a23.2 + (1 : Int32)) rfl
            · rw [if_neg hc10] at h
              refine x_iload C dL_rooms_73 4 rfl ?_
              refine x_istore C [(4, .int a23.2), (0, .ref (sA ek)), (1, .ref aH), (2, .int p3), (5, .int a23.2)] dL_rooms_75 (by decide) rfl ?_
              refine x_iinc C (k := 4) [(5, .int (a23.2 + (1 : Int32))), (4, .int a23.2), (0, .ref (sA ek)), (1, .ref aH), (2, .int p3)] dL_rooms_77 rfl rfl (by decide) rfl ?_
              refine x_goto C (tgt := 23) dL_rooms_80 (by decide) ?_
              cases h
              refine x_widen (cells2 := (0 + (17 - n23) * 1)) (slots2 := (0 + (17 - n23) * 3)) (by omega) (by omega) ?_
              refine x_sub [2, 3, 4, 1, 0] rfl ?_
              exact hA3 (a23.2, a23.2 + (1 : Int32)) rfl
          refine x_if_eq C (tgt := 62) dL_rooms_46 (by decide) (fun hc12 => ?_) (fun hc12 => ?_)
          · rw [if_pos hc12] at h
            exact hJ11 _ h hA3 hB4
          · rw [if_neg hc12] at h
            refine x_iload C dL_rooms_49 4 rfl ?_
            obtain ⟨q5, hk13, h⟩ := Option.bind_eq_some_iff.mp h
            refine x_callS C (As := [.int a23.2]) (rest := []) (lw_g_mk tw_747 rfl) (okJ6_bitCount_0f7a4 l cy D B ek a23.2 σ Y _ hk13) rfl rfl (by rw [hR9]; decide) (lw_g_mk tw_748 rfl) (lw_g_mk tw_22 rfl) (by decide) rfl (lw_g_mk tw_1094 rfl) rfl (Nat.le_of_ble_eq_true rfl) dL_rooms_51 ⟨by rw [hRc]; omega, by rw [hRs]; omega⟩ ?_
            refine x_iload C dL_rooms_54 3 rfl ?_
            obtain ⟨q6, hk14, h⟩ := Option.bind_eq_some_iff.mp h
            refine x_callS C (As := [.int a23.1]) (rest := [.int q5]) (lw_g_mk tw_747 rfl) (okJ6_bitCount_0f7a4 l cy D B ek a23.1 σ Y _ hk14) rfl rfl (by rw [hR9]; decide) (lw_g_mk tw_748 rfl) (lw_g_mk tw_22 rfl) (by decide) rfl (lw_g_mk tw_1094 rfl) rfl (Nat.le_of_ble_eq_true rfl) dL_rooms_56 ⟨by rw [hRc]; omega, by rw [hRs]; omega⟩ ?_
            refine x_icmp_ge C (tgt := 77) dL_rooms_59 (by decide) (fun hc15 => ?_) (fun hc15 => ?_)
            · rw [if_pos hc15] at h
              refine x_iinc C (k := 4) [(5, .int (a23.2 + (1 : Int32))), (0, .ref (sA ek)), (1, .ref aH), (2, .int p3), (4, .int a23.1)] dL_rooms_77 rfl rfl (by decide) rfl ?_
              refine x_goto C (tgt := 23) dL_rooms_80 (by decide) ?_
              cases h
              refine x_widen (cells2 := (0 + (17 - n23) * 1)) (slots2 := (0 + (17 - n23) * 3)) (by omega) (by omega) ?_
              refine x_sub [1, 2, 3, 4, 0] rfl ?_
              exact hA3 (a23.1, a23.2 + (1 : Int32)) rfl
            · rw [if_neg hc15] at h
              exact hJ11 _ h hA3 hB4
    · show X p l e R s m args below meth c 6 cy D B (0 + 17) (0 + 51) Q 83 [(4, .int b23)] [] σ Y
      refine x_iload C dL_rooms_83 0 rfl ?_
      cases h
      exact hret _ _ _ _ dL_rooms_85 rfl (by omega) (by omega)
  · rw [if_neg hc2] at h
    refine x_iconst C (v := 1) dL_rooms_11 (by decide) ?_
    refine x_iload_n C dL_rooms_12 rfl 0 rfl ?_
    refine x_iconst C (v := 1) dL_rooms_13 (by decide) ?_
    refine x_isub C dL_rooms_14 ?_
    refine x_ishl C dL_rooms_15 ?_
    cases h
    exact hret _ _ _ _ dL_rooms_16 rfl (by omega) (by omega)
def stL_bedFor_39 (xs : (Nat → Int32)) (L : Nat) (a3 : Int32) (p3 : Int32) (hd : (Nat → Nat → Int32)) (a39 : Int32) : Option ((Int32) ⊕ ((Unit) ⊕ (Int32))) := ((fL_room xs L a3 (1 : Int32)).bind fun q3 => (if q3 ≤ a39 then (some (.inr (.inl ()))) else ((fL_isFree xs L p3 (((10 : Int32) * a3) + a39) hd).bind fun q4 => (if q4 = 0 then (some (.inl (a39 + (1 : Int32)))) else (some (.inr (.inr (((10 : Int32) * a3) + a39))))))))
def stL_bedFor_3 (xs : (Nat → Int32)) (L : Nat) (p4 : Int32) (p5 : Int32) (p3 : Int32) (hd : (Nat → Nat → Int32)) (a3 : Int32) : Option ((Int32) ⊕ ((Unit) ⊕ (Int32))) := ((fL_roomsOf xs L).bind fun q1 => (if q1 ≤ a3 then (some (.inr (.inl ()))) else (if ((p4 >>> (a3 &&& 31)) &&& (1 : Int32)) = 0 then (some (.inl (a3 + (1 : Int32)))) else ((fL_room xs L a3 (0 : Int32)).bind fun q2 => (if q2 = p5 then ((loop (stL_bedFor_39 xs L a3 p3 hd) 5000 ((0 : Int32))).bind fun b39 => Sum.elim (fun z39 => (some (.inl (a3 + (1 : Int32))))) (fun w39 => (some (.inr (.inr w39)))) b39) else (some (.inl (a3 + (1 : Int32)))))))))
def fL_bedFor (xs : Nat → Int32) (L : Nat) (p3 : Int32) (p4 : Int32) (p5 : Int32) (hd : (Nat → Nat → Int32)) : Option (Int32) := ((loop (stL_bedFor_3 xs L p4 p5 p3 hd) 5000 ((0 : Int32))).bind fun b3 => Sum.elim (fun z3 => (some ((-1 : Int32)))) (fun w3 => (some w3)) b3)
set_option maxHeartbeats 4000000 in
set_option maxRecDepth 100000 in
theorem okL_bedFor (l : Launch) (cy : Nat → ClassId) (D : va_G) (B : Nat) (ek : EK) (xs : Nat → Int32) (L : Nat) (hxs : xs = sX ek) (hLs : L = sL ek) (aH : Nat) (aR : Nat → Nat) (iH : Nat) (iR : Nat) (p3 : Int32) (p4 : Int32) (p5 : Int32) (hd : (Nat → Nat → Int32)) (σ : Mem) (Y : va_W) (hH : Y[iH]? = some (cHd cy aH aR)) (hR : ∀ k, k < 40 → Y[iR + k]? = some (cRw cy (aR k) (hd k))) (res : Int32) (h : fL_bedFor xs L p3 p4 p5 hd = some res) : CT l cy D B ek yL_bedFor cL_bedFor 7 (some .int) ({ frames := 4, cells := 0, slots := 0, locals := 92 } : Room) [.ref (sA ek), .ref aH, .int p3, .int p4, .int p5] σ Y (some (.int res)) σ Y := by
  refine met_X (own := "HostelBedsLaw") (by decide) rfl (Nat.le_of_ble_eq_true rfl) ?_
  intro p e s m args below meth c C hrT hlk
  have hret : ∀ (pc9 : Nat) (lcs9 : List (Nat × Value)), decode cL_bedFor pc9 = .ok (.ireturn, 1) → narrow .int (.int res) = .int res → X p l e ({ frames := 4, cells := 0, slots := 0, locals := 92 } : Room) s m args below meth c 7 cy D B 0 0 (MQ below (QR cy D B (some (.int res)) σ Y) args s 0 0 (aB B)) pc9 lcs9 [.int res] σ Y := fun _ _ hd hn => x_zret C hrT hlk hn hd
  generalize (MQ below (QR cy D B (some (.int res)) σ Y) args s 0 0 (aB B)) = Q at hret ⊢
  obtain ⟨R, hR9⟩ : ∃ R : Room, R = ({ frames := 4, cells := 0, slots := 0, locals := 92 } : Room) := ⟨_, rfl⟩
  rw [← hR9] at hret ⊢
  have hRc : R.cells = 0 := by rw [hR9]
  have hRs : R.slots = 0 := by rw [hR9]
  unfold fL_bedFor at h
  show X p l e R s m args below meth c 7 cy D B 0 0 Q 0 [(0, .ref (sA ek)), (1, .ref aH), (2, .int p3), (3, .int p4), (4, .int p5)] [] σ Y
  refine x_iconst C (v := 0) dL_bedFor_0 (by decide) ?_
  refine x_istore C [(5, .int (0 : Int32)), (0, .ref (sA ek)), (1, .ref aH), (2, .int p3), (3, .int p4), (4, .int p5)] dL_bedFor_1 (by decide) rfl ?_
  obtain ⟨b3, hk15, h⟩ := Option.bind_eq_some_iff.mp h
  refine x_sub [1, 2, 3, 4, 5, 0] rfl ?_
  refine loop_run (step := stL_bedFor_3 xs L p4 p5 p3 hd) (P := fun (a3 : Int32) => X p l e R s m args below meth c 7 cy D B 0 0 Q 3 [(0, .ref (sA ek)), (1, .ref aH), (2, .int p3), (3, .int p4), (4, .int p5), (5, .int a3)] [] σ Y) (K := fun (b3 : (Unit) ⊕ (Int32)) => Sum.elim (fun z3 => X p l e R s m args below meth c 7 cy D B 0 0 Q 89 [] [] σ Y) (fun w3 => ∀ (pc9 : Nat) (lcs9 : List (Nat × Value)), decode cL_bedFor pc9 = .ok (.ireturn, 1) → narrow .int (.int w3) = .int w3 → X p l e R s m args below meth c 7 cy D B 0 0 Q pc9 lcs9 [.int w3] σ Y) b3) ?_ 5000 ((0 : Int32)) b3 hk15 ?_
  · intro a3 r h hA1 hB2
    unfold stL_bedFor_3 at h
    refine x_iload C dL_bedFor_3 5 rfl ?_
    refine x_aload_n C dL_bedFor_5 rfl 0 rfl ?_
    obtain ⟨q1, hk3, h⟩ := Option.bind_eq_some_iff.mp h
    refine x_callS C (As := [.ref (sA ek)]) (rest := [.int a3]) (lw_g_mk tw_761 rfl) (okL_roomsOf l cy D B ek xs L hxs hLs σ Y _ hk3) rfl rfl (by rw [hR9]; decide) (lw_g_mk tw_762 rfl) (lw_g_mk tw_0 rfl) (by decide) rfl (lw_g_mk tw_760 rfl) rfl (Nat.le_of_ble_eq_true rfl) dL_bedFor_6 ⟨by rw [hRc]; omega, by rw [hRs]; omega⟩ ?_
    refine x_icmp_ge C (tgt := 89) dL_bedFor_9 (by decide) (fun hc4 => ?_) (fun hc4 => ?_)
    · rw [if_pos hc4] at h
      cases h
      refine x_sub [] rfl ?_
      exact hB2 (.inl ()) rfl
    · rw [if_neg hc4] at h
      refine x_iload_n C dL_bedFor_12 rfl 3 rfl ?_
      refine x_iload C dL_bedFor_13 5 rfl ?_
      refine x_ishr C dL_bedFor_15 ?_
      refine x_iconst C (v := 1) dL_bedFor_16 (by decide) ?_
      refine x_iand C dL_bedFor_17 ?_
      refine x_if_eq C (tgt := 83) dL_bedFor_18 (by decide) (fun hc5 => ?_) (fun hc5 => ?_)
      · rw [if_pos hc5] at h
        refine x_iinc C (k := 5) [(5, .int (a3 + (1 : Int32))), (0, .ref (sA ek)), (1, .ref aH), (2, .int p3), (3, .int p4), (4, .int p5)] dL_bedFor_83 rfl rfl (by decide) rfl ?_
        refine x_goto C (tgt := 3) dL_bedFor_86 (by decide) ?_
        cases h
        refine x_sub [1, 2, 3, 4, 5, 0] rfl ?_
        exact hA1 (a3 + (1 : Int32)) rfl
      · rw [if_neg hc5] at h
        refine x_aload_n C dL_bedFor_21 rfl 0 rfl ?_
        refine x_iload C dL_bedFor_22 5 rfl ?_
        refine x_iconst C (v := 0) dL_bedFor_24 (by decide) ?_
        obtain ⟨q2, hk6, h⟩ := Option.bind_eq_some_iff.mp h
        refine x_callS C (As := [.ref (sA ek), .int a3, .int (0 : Int32)]) (rest := []) (lw_g_mk tw_764 rfl) (okL_room l cy D B ek xs L hxs hLs a3 (0 : Int32) σ Y _ hk6) rfl rfl (by rw [hR9]; decide) (lw_g_mk tw_765 rfl) (lw_g_mk tw_0 rfl) (by decide) rfl (lw_g_mk tw_763 rfl) rfl (Nat.le_of_ble_eq_true rfl) dL_bedFor_25 ⟨by rw [hRc]; omega, by rw [hRs]; omega⟩ ?_
        refine x_iload C dL_bedFor_28 4 rfl ?_
        refine x_icmp_eq C (tgt := 36) dL_bedFor_30 (by decide) (fun hc7 => ?_) (fun hc7 => ?_)
        · rw [if_pos hc7] at h
          refine x_iconst C (v := 0) dL_bedFor_36 (by decide) ?_
          refine x_istore C [(6, .int (0 : Int32)), (0, .ref (sA ek)), (1, .ref aH), (2, .int p3), (3, .int p4), (4, .int p5), (5, .int a3)] dL_bedFor_37 (by decide) rfl ?_
          obtain ⟨b39, hk14, h⟩ := Option.bind_eq_some_iff.mp h
          refine x_sub [1, 2, 3, 4, 5, 6, 0] rfl ?_
          refine loop_run (step := stL_bedFor_39 xs L a3 p3 hd) (P := fun (a39 : Int32) => X p l e R s m args below meth c 7 cy D B 0 0 Q 39 [(0, .ref (sA ek)), (1, .ref aH), (2, .int p3), (3, .int p4), (4, .int p5), (5, .int a3), (6, .int a39)] [] σ Y) (K := fun (b39 : (Unit) ⊕ (Int32)) => Sum.elim (fun z39 => X p l e R s m args below meth c 7 cy D B 0 0 Q 83 [(0, .ref (sA ek)), (1, .ref aH), (2, .int p3), (3, .int p4), (4, .int p5), (5, .int a3)] [] σ Y) (fun w39 => ∀ (pc9 : Nat) (lcs9 : List (Nat × Value)), decode cL_bedFor pc9 = .ok (.ireturn, 1) → narrow .int (.int w39) = .int w39 → X p l e R s m args below meth c 7 cy D B 0 0 Q pc9 lcs9 [.int w39] σ Y) b39) ?_ 5000 ((0 : Int32)) b39 hk14 ?_
          · intro a39 r h hA8 hB9
            unfold stL_bedFor_39 at h
            refine x_iload C dL_bedFor_39 6 rfl ?_
            refine x_aload_n C dL_bedFor_41 rfl 0 rfl ?_
            refine x_iload C dL_bedFor_42 5 rfl ?_
            refine x_iconst C (v := 1) dL_bedFor_44 (by decide) ?_
            obtain ⟨q3, hk10, h⟩ := Option.bind_eq_some_iff.mp h
            refine x_callS C (As := [.ref (sA ek), .int a3, .int (1 : Int32)]) (rest := [.int a39]) (lw_g_mk tw_764 rfl) (okL_room l cy D B ek xs L hxs hLs a3 (1 : Int32) σ Y _ hk10) rfl rfl (by rw [hR9]; decide) (lw_g_mk tw_765 rfl) (lw_g_mk tw_0 rfl) (by decide) rfl (lw_g_mk tw_763 rfl) rfl (Nat.le_of_ble_eq_true rfl) dL_bedFor_45 ⟨by rw [hRc]; omega, by rw [hRs]; omega⟩ ?_
            refine x_icmp_ge C (tgt := 83) dL_bedFor_48 (by decide) (fun hc11 => ?_) (fun hc11 => ?_)
            · rw [if_pos hc11] at h
              cases h
              refine x_sub [0, 1, 2, 3, 4, 5] rfl ?_
              exact hB9 (.inl ()) rfl
            · rw [if_neg hc11] at h
              refine x_aload_n C dL_bedFor_51 rfl 0 rfl ?_
              refine x_aload_n C dL_bedFor_52 rfl 1 rfl ?_
              refine x_iload_n C dL_bedFor_53 rfl 2 rfl ?_
              refine x_bipush C (v := 10) dL_bedFor_54 (by decide) ?_
              refine x_iload C dL_bedFor_56 5 rfl ?_
              refine x_imul C dL_bedFor_58 ?_
              refine x_iload C dL_bedFor_59 6 rfl ?_
              refine x_iadd C dL_bedFor_61 ?_
              obtain ⟨q4, hk12, h⟩ := Option.bind_eq_some_iff.mp h
              refine x_callS C (As := [.ref (sA ek), .ref aH, .int p3, .int (((10 : Int32) * a3) + a39)]) (rest := []) (lw_g_mk tw_1092 rfl) (okL_isFree l cy D B ek xs L hxs hLs _ _ _ _ p3 (((10 : Int32) * a3) + a39) hd σ Y hH hR _ hk12) rfl rfl (by rw [hR9]; decide) (lw_g_mk tw_1093 rfl) (lw_g_mk tw_0 rfl) (by decide) rfl (lw_g_mk tw_1091 rfl) rfl (Nat.le_of_ble_eq_true rfl) dL_bedFor_62 ⟨by rw [hRc]; omega, by rw [hRs]; omega⟩ ?_
              refine x_if_eq C (tgt := 77) dL_bedFor_65 (by decide) (fun hc13 => ?_) (fun hc13 => ?_)
              · rw [if_pos hc13] at h
                refine x_iinc C (k := 6) [(6, .int (a39 + (1 : Int32))), (0, .ref (sA ek)), (1, .ref aH), (2, .int p3), (3, .int p4), (4, .int p5), (5, .int a3)] dL_bedFor_77 rfl rfl (by decide) rfl ?_
                refine x_goto C (tgt := 39) dL_bedFor_80 (by decide) ?_
                cases h
                refine x_sub [1, 2, 3, 4, 5, 6, 0] rfl ?_
                exact hA8 (a39 + (1 : Int32)) rfl
              · rw [if_neg hc13] at h
                refine x_bipush C (v := 10) dL_bedFor_68 (by decide) ?_
                refine x_iload C dL_bedFor_70 5 rfl ?_
                refine x_imul C dL_bedFor_72 ?_
                refine x_iload C dL_bedFor_73 6 rfl ?_
                refine x_iadd C dL_bedFor_75 ?_
                cases h
                exact hB9 (.inr (((10 : Int32) * a3) + a39)) rfl _ _ dL_bedFor_76 rfl
          · rcases b39 with z39 | w39
            · rw [Sum.elim_inl] at h
              show X p l e R s m args below meth c 7 cy D B 0 0 Q 83 [(0, .ref (sA ek)), (1, .ref aH), (2, .int p3), (3, .int p4), (4, .int p5), (5, .int a3)] [] σ Y
              refine x_iinc C (k := 5) [(5, .int (a3 + (1 : Int32))), (0, .ref (sA ek)), (1, .ref aH), (2, .int p3), (3, .int p4), (4, .int p5)] dL_bedFor_83 rfl rfl (by decide) rfl ?_
              refine x_goto C (tgt := 3) dL_bedFor_86 (by decide) ?_
              cases h
              refine x_sub [1, 2, 3, 4, 5, 0] rfl ?_
              exact hA1 (a3 + (1 : Int32)) rfl
            · rw [Sum.elim_inr] at h
              show ∀ (pc9 : Nat) (lcs9 : List (Nat × Value)), decode cL_bedFor pc9 = .ok (.ireturn, 1) → narrow .int (.int w39) = .int w39 → X p l e R s m args below meth c 7 cy D B 0 0 Q pc9 lcs9 [.int w39] σ Y
              cases h
              exact hB2 (.inr w39) rfl
        · rw [if_neg hc7] at h
          refine x_goto C (tgt := 83) dL_bedFor_33 (by decide) ?_
          refine x_iinc C (k := 5) [(5, .int (a3 + (1 : Int32))), (0, .ref (sA ek)), (1, .ref aH), (2, .int p3), (3, .int p4), (4, .int p5)] dL_bedFor_83 rfl rfl (by decide) rfl ?_
          refine x_goto C (tgt := 3) dL_bedFor_86 (by decide) ?_
          cases h
          refine x_sub [1, 2, 3, 4, 5, 0] rfl ?_
          exact hA1 (a3 + (1 : Int32)) rfl
  · rcases b3 with z3 | w3
    · rw [Sum.elim_inl] at h
      show X p l e R s m args below meth c 7 cy D B 0 0 Q 89 [] [] σ Y
      refine x_iconst C (v := -1) dL_bedFor_89 (by decide) ?_
      cases h
      exact hret _ _ dL_bedFor_90 rfl
    · rw [Sum.elim_inr] at h
      show ∀ (pc9 : Nat) (lcs9 : List (Nat × Value)), decode cL_bedFor pc9 = .ok (.ireturn, 1) → narrow .int (.int w3) = .int w3 → X p l e R s m args below meth c 7 cy D B 0 0 Q pc9 lcs9 [.int w3] σ Y
      cases h
      exact hret
def stL_placed_207 (xs : (Nat → Int32)) (L : Nat) (p4 : Int32) (x15 : Int32) (a207 : Int32 × (Nat → Nat → Int32)) : Option ((Int32 × (Nat → Nat → Int32)) ⊕ ((Nat → Nat → Int32))) := (if (30 : Int32) ≤ a207.1 then (some (.inr a207.2)) else ((fL_isIn xs L p4 a207.1).bind fun q22 => (if q22 = 0 then (some (.inl (a207.1 + (1 : Int32), a207.2))) else (gd (inb x15 40) (gd (inb a207.1 30) (some (.inl (a207.1 + (1 : Int32), hdUp a207.2 x15.toNatClampNeg (upd (a207.2 x15.toNatClampNeg) a207.1.toNatClampNeg (p4 + (1 : Int32)))))))))))
def jL_placed_171 (p4 : Int32) (a119 : Int32 × Int32 × (Nat → Nat → Int32)) (σ : Mem) (xs : (Nat → Int32)) (L : Nat) (q2 : Int32) (x15 : Int32) : Option ((Int32 × Int32 × (Nat → Nat → Int32)) ⊕ ((Int32 × (Nat → Nat → Int32)) ⊕ (Int32 × (Nat → Nat → Int32)))) := ((fX5_roomOf p4 a119.2.1 σ).bind fun q16 => Sum.elim (fun x17 => (if ¬ x17 = (x15 / (10 : Int32)) then (some (.inr (.inr ((-99999999 : Int32), a119.2.2)))) else ((fX5_bedOf p4 a119.2.1 σ).bind fun q19 => Sum.elim (fun x20 => (if x20 = (x15 - x15 / (10 : Int32) * (10 : Int32)) then ((loop (stL_placed_207 xs L p4 x15) 5000 ((0 : Int32), a119.2.2)).bind fun b207 => ((fL_room xs L (x15 / (10 : Int32)) (3 : Int32)).bind fun q23 => (some (.inl (a119.1 + (q23 * q2), a119.2.1 + (1 : Int32), b207))))) else (some (.inr (.inr ((-99999999 : Int32), a119.2.2)))))) (fun e21 => none) q19))) (fun e18 => none) q16)
def jL_placed_150 (xs : (Nat → Int32)) (L : Nat) (p4 : Int32) (q1 : Int32) (a119 : Int32 × Int32 × (Nat → Nat → Int32)) (σ : Mem) (q2 : Int32) (t13 : Int32) : Option ((Int32 × Int32 × (Nat → Nat → Int32)) ⊕ ((Int32 × (Nat → Nat → Int32)) ⊕ (Int32 × (Nat → Nat → Int32)))) := ((fL_bedFor xs L p4 q1 t13 a119.2.2).bind fun q14 => (if 0 ≤ q14 then (jL_placed_171 p4 a119 σ xs L q2 q14) else ((fL_bedFor xs L p4 q1 (0 : Int32) a119.2.2).bind fun q24 => (jL_placed_171 p4 a119 σ xs L q2 q24))))
def stL_placed_119 (xs : (Nat → Int32)) (L : Nat) (p4 : Int32) (q1 : Int32) (σ : Mem) (q2 : Int32) (a119 : Int32 × Int32 × (Nat → Nat → Int32)) : Option ((Int32 × Int32 × (Nat → Nat → Int32)) ⊕ ((Int32 × (Nat → Nat → Int32)) ⊕ (Int32 × (Nat → Nat → Int32)))) := ((fL_people xs L p4).bind fun q11 => (if q11 ≤ a119.2.1 then (some (.inr (.inl (a119.1, a119.2.2)))) else ((fL_booking xs L p4 (2 : Int32)).bind fun q12 => (if q12 ≤ a119.2.1 then (jL_placed_150 xs L p4 q1 a119 σ q2 (2 : Int32)) else (jL_placed_150 xs L p4 q1 a119 σ q2 (1 : Int32))))))
def jL_placed_293 (p4 : Int32) (σ : Mem) (z119 : Int32 × (Nat → Nat → Int32)) (t26 : Int32) : Option (Int32 × (Nat → Nat → Int32)) := ((fX5_pays p4 σ).bind fun q27 => Sum.elim (fun x28 => (if ¬ x28 = t26 then (some ((-99999999 : Int32), z119.2)) else (some (t26, z119.2)))) (fun e29 => none) q27)
def jL_placed_97 (x4 : Int32) (hd : (Nat → Nat → Int32)) (p4 : Int32) (σ : Mem) (q1 : Int32) (xs : (Nat → Int32)) (L : Nat) (q2 : Int32) (t7 : Int32) : Option (Int32 × (Nat → Nat → Int32)) := (if ¬ x4 = t7 then (some ((-99999999 : Int32), hd)) else ((fX5_roomsOf p4 σ).bind fun q8 => Sum.elim (fun x9 => (if x9 = q1 then ((loop (stL_placed_119 xs L p4 q1 σ q2) 9 ((0 : Int32), (0 : Int32), hd)).bind fun b119 => Sum.elim (fun z119 => ((fL_setting xs L (2 : Int32)).bind fun q25 => (if q2 < q25 then (jL_placed_293 p4 σ z119 z119.1) else ((fL_setting xs L (3 : Int32)).bind fun q30 => (jL_placed_293 p4 σ z119 ((z119.1 * ((100 : Int32) - q30)) / (100 : Int32))))))) (fun w119 => (some w119)) b119) else (some ((-99999999 : Int32), hd)))) (fun e10 => none) q8))
def jL_placed_78 (hd : (Nat → Nat → Int32)) : Option (Int32 × (Nat → Nat → Int32)) := (some ((-99999999 : Int32), hd))
def fL_placed (xs : Nat → Int32) (L : Nat) (p4 : Int32) (σ : Mem) (hd : (Nat → Nat → Int32)) : Option (Int32 × (Nat → Nat → Int32)) := ((fL_rooms xs L p4 hd).bind fun q1 => ((fL_booking xs L p4 (1 : Int32)).bind fun q2 => ((fX5_placed p4 σ).bind fun q3 => Sum.elim (fun x4 => (if ¬ q1 = 0 then ((fJ6_bitCount_0f7a4 q1).bind fun q6 => (if ¬ q6 = (1 : Int32) then (jL_placed_97 x4 hd p4 σ q1 xs L q2 (2 : Int32)) else (jL_placed_97 x4 hd p4 σ q1 xs L q2 (1 : Int32)))) else (if ¬ x4 = (3 : Int32) then (jL_placed_78 hd) else ((fX5_roomsOf p4 σ).bind fun q31 => Sum.elim (fun x32 => (if ¬ x32 = 0 then (jL_placed_78 hd) else ((fX5_pays p4 σ).bind fun q34 => Sum.elim (fun x35 => (if ¬ x35 = 0 then (jL_placed_78 hd) else ((fL_noBed p4 (0 : Int32) σ).bind fun q37 => (if ¬ q37 = (2 : Int32) then (jL_placed_78 hd) else ((fL_setting xs L (1 : Int32)).bind fun q38 => ((fL_people xs L p4).bind fun q39 => (some (((-q38) * q39) * q2, hd)))))))) (fun e36 => none) q34))) (fun e33 => none) q31)))) (fun e5 => none) q3)))
set_option maxHeartbeats 4000000 in
set_option maxRecDepth 100000 in
theorem okL_placed (l : Launch) (hlf : l.stackTraces = false) (cy : Nat → ClassId) (D : va_G) (B : Nat) (ek : EK) (xs : Nat → Int32) (L : Nat) (hxs : xs = sX ek) (hLs : L = sL ek) (aH : Nat) (aR : Nat → Nat) (p4 : Int32) (hd : (Nat → Nat → Int32)) (σ : Mem) (Y : va_W) (res : Int32 × (Nat → Nat → Int32)) (h : fL_placed xs L p4 σ hd = some res) : CTE l cy D B ek yL_placed cL_placed 11 (some .int) ({ frames := 10, cells := 60, slots := 309, locals := 208 } : Room) 60 309 [.ref (B + oHB), .ref (sA ek), .ref aH, .int p4] σ (Y ++ hdL cy aH aR hd) (fun v9 σ9 Y9 => v9 = (some (.int res.1)) ∧ σ9 = σ ∧ Y9 = (Y ++ hdL cy aH aR res.2)) := by
  refine met_XE (own := "HostelBedsLaw") (by decide) rfl (Nat.le_of_ble_eq_true rfl) ?_
  intro p e s m args below meth c C hrT hlk
  have hret : ∀ (cells9 slots9 pc9 : Nat) (lcs9 : List (Nat × Value)), decode cL_placed pc9 = .ok (.ireturn, 1) → narrow .int (.int res.1) = .int res.1 → cells9 ≤ 60 → slots9 ≤ 309 → X p l e ({ frames := 10, cells := 60, slots := 309, locals := 208 } : Room) s m args below meth c 11 cy D B cells9 slots9 (MQ below (QE cy D B (fun v9 σ9 Y9 => v9 = (some (.int res.1)) ∧ σ9 = σ ∧ Y9 = (Y ++ hdL cy aH aR res.2))) args s 60 309 (aB B)) pc9 lcs9 [.int res.1] σ (Y ++ hdL cy aH aR res.2) := fun cells9 slots9 pc9 lcs9 hd hn h1 h2 => x_zretE C hrT hlk hn hd h1 h2 ⟨rfl, rfl, rfl⟩
  generalize (MQ below (QE cy D B (fun v9 σ9 Y9 => v9 = (some (.int res.1)) ∧ σ9 = σ ∧ Y9 = (Y ++ hdL cy aH aR res.2))) args s 60 309 (aB B)) = Q at hret ⊢
  obtain ⟨R, hR9⟩ : ∃ R : Room, R = ({ frames := 10, cells := 60, slots := 309, locals := 208 } : Room) := ⟨_, rfl⟩
  rw [← hR9] at hret ⊢
  have hRc : R.cells = 60 := by rw [hR9]
  have hRs : R.slots = 309 := by rw [hR9]
  unfold fL_placed at h
  show X p l e R s m args below meth c 11 cy D B 0 0 Q 0 [(0, .ref (B + oHB)), (1, .ref (sA ek)), (2, .ref aH), (3, .int p4)] [] σ (Y ++ hdL cy aH aR hd)
  refine x_aload_n C dL_placed_0 rfl 1 rfl ?_
  refine x_aload_n C dL_placed_1 rfl 2 rfl ?_
  refine x_iload_n C dL_placed_2 rfl 3 rfl ?_
  obtain ⟨q1, hk1, h⟩ := Option.bind_eq_some_iff.mp h
  refine x_callSE C (As := [.ref (sA ek), .ref aH, .int p4]) (rest := []) (lw_g_mk tw_1083 rfl) (okL_rooms l cy D B ek xs L hxs hLs _ _ _ _ p4 hd σ (Y ++ hdL cy aH aR hd) hdl_H (fun _ h => hdl_R h) _ hk1) rfl rfl (by rw [hR9]; decide) (lw_g_mk tw_1084 rfl) (lw_g_mk tw_0 rfl) (by decide) rfl (lw_g_mk tw_1082 rfl) rfl (Nat.le_of_ble_eq_true rfl) dL_placed_3 ⟨by rw [hRc]; omega, by rw [hRs]; omega⟩ (fun v9 σ9 Y9 hp9 => ?_)
  obtain ⟨e7, e8, e9⟩ := hp9
  rw [e7, e8, e9]
  refine x_istore C [(4, .int q1), (0, .ref (B + oHB)), (1, .ref (sA ek)), (2, .ref aH), (3, .int p4)] dL_placed_6 (by decide) rfl ?_
  refine x_aload_n C dL_placed_8 rfl 2 rfl ?_
  refine x_iload_n C dL_placed_9 rfl 4 rfl ?_
  refine x_iconst C (v := 1) dL_placed_10 (by decide) ?_
  obtain ⟨q2, hk2, h⟩ := Option.bind_eq_some_iff.mp h
  refine x_callS C (As := [.ref (sA ek), .int p4, .int (1 : Int32)]) (rest := []) (lw_g_mk tw_770 rfl) (okL_booking l cy D B ek xs L hxs hLs p4 (1 : Int32) σ (Y ++ hdL cy aH aR hd) _ hk2) rfl rfl (by rw [hR9]; decide) (lw_g_mk tw_771 rfl) (lw_g_mk tw_0 rfl) (by decide) rfl (lw_g_mk tw_769 rfl) rfl (Nat.le_of_ble_eq_true rfl) dL_placed_11 ⟨by rw [hRc]; omega, by rw [hRs]; omega⟩ ?_
  refine x_istore C [(5, .int q2), (4, .int q1), (0, .ref (B + oHB)), (1, .ref (sA ek)), (2, .ref aH), (3, .int p4)] dL_placed_14 (by decide) rfl ?_
  refine x_aload_n C dL_placed_16 rfl 2 rfl ?_
  refine x_iload_n C dL_placed_17 rfl 5 rfl ?_
  obtain ⟨q3, hk3, h⟩ := Option.bind_eq_some_iff.mp h
  refine x_callVX C (As := [.int p4]) (rest := []) (cells2 := ((0 + 17) + 1)) (slots2 := ((0 + 51) + 6)) (lw_g_mk tw_448 rfl) (lw_g_mk tw_449 rfl) (c_HB) (C1 := "HostelBeds") (T := TX5) (N := 12) (ci := 7) rfl (okX5_placed l hlf cy D B ek p4 σ (Y ++ hdL cy aH aR hd) _ hk3) rfl rfl (by rw [hR9]; decide) (lw_g_mk tw_450 rfl) (lw_g_mk tw_1 rfl) (by decide) rfl (lw_g_mk tw_447 rfl) rfl (Nat.le_of_ble_eq_true rfl) dL_placed_18 ⟨by rw [hRc]; omega, by rw [hRs]; omega⟩ rfl rfl (fun v4 hv5 => ?_) (fun k6 hv7 => ?_)
  · rcases q3 with x4 | e5
    · rw [Sum.elim_inl] at h
      have hv5 : (Sum.inl (some (Value.int x4)) : Option Value ⊕ Nat) = .inl v4 := hv5
      cases hv5
      refine x_istore C [(6, .int x4), (5, .int q2), (4, .int q1), (0, .ref (B + oHB)), (1, .ref (sA ek)), (2, .ref aH), (3, .int p4)] dL_placed_21 (by decide) rfl ?_
      refine x_iload C dL_placed_23 2 rfl ?_
      refine x_if_ne C (tgt := 81) dL_placed_25 (by decide) (fun hc9 => ?_) (fun hc9 => ?_)
      · rw [if_pos hc9] at h
        refine x_iload C dL_placed_81 0 rfl ?_
        refine x_iload C dL_placed_83 2 rfl ?_
        obtain ⟨q6, hk10, h⟩ := Option.bind_eq_some_iff.mp h
        refine x_callS C (As := [.int q1]) (rest := [.int x4]) (lw_g_mk tw_747 rfl) (okJ6_bitCount_0f7a4 l cy D B ek q1 σ (Y ++ hdL cy aH aR hd) _ hk10) rfl rfl (by rw [hR9]; decide) (lw_g_mk tw_748 rfl) (lw_g_mk tw_22 rfl) (by decide) rfl (lw_g_mk tw_1094 rfl) rfl (Nat.le_of_ble_eq_true rfl) dL_placed_85 ⟨by rw [hRc]; omega, by rw [hRs]; omega⟩ ?_
        refine x_iconst C (v := 1) dL_placed_88 (by decide) ?_
        have hJ69 : ∀ (t7 : Int32) (r9 : Int32 × (Nat → Nat → Int32)), jL_placed_97 x4 hd p4 σ q1 xs L q2 t7 = some r9 → (∀ (cells9 slots9 pc9 : Nat) (lcs9 : List (Nat × Value)), decode cL_placed pc9 = .ok (.ireturn, 1) → narrow .int (.int r9.1) = .int r9.1 → cells9 ≤ 60 → slots9 ≤ 309 → X p l e R s m args below meth c 11 cy D B cells9 slots9 Q pc9 lcs9 [.int r9.1] σ (Y ++ hdL cy aH aR r9.2)) → X p l e R s m args below meth c 11 cy D B ((0 + 17) + 1) ((0 + 51) + 6) Q 97 [(0, .ref (B + oHB)), (1, .ref (sA ek)), (2, .ref aH), (3, .int p4), (4, .int q1), (5, .int q2)] [.int t7, .int x4] σ (Y ++ hdL cy aH aR hd) := by
          intro t7 res9 h hret
          unfold jL_placed_97 at h
          refine x_icmp_ne C (tgt := 110) dL_placed_97 (by decide) (fun hc11 => ?_) (fun hc11 => ?_)
          · rw [if_pos hc11] at h
            refine x_ldc C (v := -99999999) (lw_g_mk tw_1103 rfl) dL_placed_110 ?_
            cases h
            exact hret _ _ _ _ dL_placed_112 rfl (by omega) (by omega)
          · rw [if_neg hc11] at h
            refine x_aload_n C dL_placed_100 rfl 0 rfl ?_
            refine x_iload_n C dL_placed_101 rfl 3 rfl ?_
            obtain ⟨q8, hk12, h⟩ := Option.bind_eq_some_iff.mp h
            refine x_callVX C (As := [.int p4]) (rest := []) (cells2 := (((0 + 17) + 1) + 1)) (slots2 := (((0 + 51) + 6) + 6)) (lw_g_mk tw_1100 rfl) (lw_g_mk tw_1101 rfl) (c_HB) (C1 := "HostelBeds") (T := TX5) (N := 12) (ci := 7) rfl (okX5_roomsOf l hlf cy D B ek p4 σ (Y ++ hdL cy aH aR hd) _ hk12) rfl rfl (by rw [hR9]; decide) (lw_g_mk tw_1102 rfl) (lw_g_mk tw_1 rfl) (by decide) rfl (lw_g_mk tw_1099 rfl) rfl (Nat.le_of_ble_eq_true rfl) dL_placed_102 ⟨by rw [hRc]; omega, by rw [hRs]; omega⟩ rfl rfl (fun v13 hv14 => ?_) (fun k15 hv16 => ?_)
            · rcases q8 with x9 | e10
              · rw [Sum.elim_inl] at h
                have hv14 : (Sum.inl (some (Value.int x9)) : Option Value ⊕ Nat) = .inl v13 := hv14
                cases hv14
                refine x_iload C dL_placed_105 4 rfl ?_
                refine x_icmp_eq C (tgt := 113) dL_placed_107 (by decide) (fun hc18 => ?_) (fun hc18 => ?_)
                · rw [if_pos hc18] at h
                  refine x_iconst C (v := 0) dL_placed_113 (by decide) ?_
                  refine x_istore C [(7, .int (0 : Int32)), (0, .ref (B + oHB)), (1, .ref (sA ek)), (2, .ref aH), (3, .int p4), (4, .int q1), (5, .int q2)] dL_placed_114 (by decide) rfl ?_
                  refine x_iconst C (v := 0) dL_placed_116 (by decide) ?_
                  refine x_istore C [(8, .int (0 : Int32)), (7, .int (0 : Int32)), (0, .ref (B + oHB)), (1, .ref (sA ek)), (2, .ref aH), (3, .int p4), (4, .int q1), (5, .int q2)] dL_placed_117 (by decide) rfl ?_
                  obtain ⟨b119, hk55, h⟩ := Option.bind_eq_some_iff.mp h
                  refine x_sub [2, 3, 4, 5, 6, 7, 1, 0] rfl ?_
                  refine x_widen (cells2 := ((((0 + 17) + 1) + 1) + (9 - 9) * 4)) (slots2 := ((((0 + 51) + 6) + 6) + (9 - 9) * 24)) (by omega) (by omega) ?_
                  refine loop_runN (N := 9) (step := stL_placed_119 xs L p4 q1 σ q2) (P := fun (n119 : Nat) (a119 : Int32 × Int32 × (Nat → Nat → Int32)) => X p l e R s m args below meth c 11 cy D B ((((0 + 17) + 1) + 1) + (9 - n119) * 4) ((((0 + 51) + 6) + 6) + (9 - n119) * 24) Q 119 [(0, .ref (B + oHB)), (1, .ref (sA ek)), (2, .ref aH), (3, .int p4), (4, .int q1), (5, .int q2), (7, .int a119.1), (8, .int a119.2.1)] [] σ (Y ++ hdL cy aH aR a119.2.2)) (K := fun (b119 : (Int32 × (Nat → Nat → Int32)) ⊕ (Int32 × (Nat → Nat → Int32))) => Sum.elim (fun z119 => X p l e R s m args below meth c 11 cy D B ((((0 + 17) + 1) + 1) + 36) ((((0 + 51) + 6) + 6) + 216) Q 264 [(0, .ref (B + oHB)), (1, .ref (sA ek)), (3, .int p4), (5, .int q2), (7, .int z119.1)] [] σ (Y ++ hdL cy aH aR z119.2)) (fun w119 => ∀ (cells9 slots9 pc9 : Nat) (lcs9 : List (Nat × Value)), decode cL_placed pc9 = .ok (.ireturn, 1) → narrow .int (.int w119.1) = .int w119.1 → cells9 ≤ 60 → slots9 ≤ 309 → X p l e R s m args below meth c 11 cy D B cells9 slots9 Q pc9 lcs9 [.int w119.1] σ (Y ++ hdL cy aH aR w119.2)) b119) ?_ 9 ((0 : Int32), (0 : Int32), hd) b119 (Nat.le_refl _) hk55 ?_
                  · intro n119 a119 r hn119 h hA19 hB20
                    unfold stL_placed_119 at h
                    refine x_iload C dL_placed_119 7 rfl ?_
                    refine x_aload_n C dL_placed_121 rfl 1 rfl ?_
                    refine x_iload_n C dL_placed_122 rfl 3 rfl ?_
                    obtain ⟨q11, hk21, h⟩ := Option.bind_eq_some_iff.mp h
                    refine x_callS C (As := [.ref (sA ek), .int p4]) (rest := [.int a119.2.1]) (lw_g_mk tw_1059 rfl) (okL_people l cy D B ek xs L hxs hLs p4 σ (Y ++ hdL cy aH aR a119.2.2) _ hk21) rfl rfl (by rw [hR9]; decide) (lw_g_mk tw_1060 rfl) (lw_g_mk tw_0 rfl) (by decide) rfl (lw_g_mk tw_1058 rfl) rfl (Nat.le_of_ble_eq_true rfl) dL_placed_123 ⟨by rw [hRc]; omega, by rw [hRs]; omega⟩ ?_
                    refine x_icmp_ge C (tgt := 264) dL_placed_126 (by decide) (fun hc22 => ?_) (fun hc22 => ?_)
                    · rw [if_pos hc22] at h
                      cases h
                      refine x_widen (cells2 := ((((0 + 17) + 1) + 1) + 36)) (slots2 := ((((0 + 51) + 6) + 6) + 216)) (by omega) (by omega) ?_
                      refine x_sub [0, 1, 3, 5, 6] rfl ?_
                      exact hB20 (.inl (a119.1, a119.2.2)) rfl
                    · rw [if_neg hc22] at h
                      refine x_aload_n C dL_placed_129 rfl 1 rfl ?_
                      refine x_aload_n C dL_placed_130 rfl 2 rfl ?_
                      refine x_iload_n C dL_placed_131 rfl 3 rfl ?_
                      refine x_iload C dL_placed_132 4 rfl ?_
                      refine x_iload C dL_placed_134 7 rfl ?_
                      refine x_aload_n C dL_placed_136 rfl 1 rfl ?_
                      refine x_iload_n C dL_placed_137 rfl 3 rfl ?_
                      refine x_iconst C (v := 2) dL_placed_138 (by decide) ?_
                      obtain ⟨q12, hk23, h⟩ := Option.bind_eq_some_iff.mp h
                      refine x_callS C (As := [.ref (sA ek), .int p4, .int (2 : Int32)]) (rest := [.int a119.2.1, .int q1, .int p4, .ref aH, .ref (sA ek)]) (lw_g_mk tw_770 rfl) (okL_booking l cy D B ek xs L hxs hLs p4 (2 : Int32) σ (Y ++ hdL cy aH aR a119.2.2) _ hk23) rfl rfl (by rw [hR9]; decide) (lw_g_mk tw_771 rfl) (lw_g_mk tw_0 rfl) (by decide) rfl (lw_g_mk tw_769 rfl) rfl (Nat.le_of_ble_eq_true rfl) dL_placed_139 ⟨by rw [hRc]; omega, by rw [hRs]; omega⟩ ?_
                      have hJ53 : ∀ (t13 : Int32) (r9 : (Int32 × Int32 × (Nat → Nat → Int32)) ⊕ ((Int32 × (Nat → Nat → Int32)) ⊕ (Int32 × (Nat → Nat → Int32)))), jL_placed_150 xs L p4 q1 a119 σ q2 t13 = some r9 → (∀ a2, r9 = .inl a2 → (fun (n119 : Nat) (a119 : Int32 × Int32 × (Nat → Nat → Int32)) => X p l e R s m args below meth c 11 cy D B ((((0 + 17) + 1) + 1) + (9 - n119) * 4) ((((0 + 51) + 6) + 6) + (9 - n119) * 24) Q 119 [(0, .ref (B + oHB)), (1, .ref (sA ek)), (2, .ref aH), (3, .int p4), (4, .int q1), (5, .int q2), (7, .int a119.1), (8, .int a119.2.1)] [] σ (Y ++ hdL cy aH aR a119.2.2)) n119 a2) → (∀ b2, r9 = .inr b2 → (fun (b119 : (Int32 × (Nat → Nat → Int32)) ⊕ (Int32 × (Nat → Nat → Int32))) => Sum.elim (fun z119 => X p l e R s m args below meth c 11 cy D B ((((0 + 17) + 1) + 1) + 36) ((((0 + 51) + 6) + 6) + 216) Q 264 [(0, .ref (B + oHB)), (1, .ref (sA ek)), (3, .int p4), (5, .int q2), (7, .int z119.1)] [] σ (Y ++ hdL cy aH aR z119.2)) (fun w119 => ∀ (cells9 slots9 pc9 : Nat) (lcs9 : List (Nat × Value)), decode cL_placed pc9 = .ok (.ireturn, 1) → narrow .int (.int w119.1) = .int w119.1 → cells9 ≤ 60 → slots9 ≤ 309 → X p l e R s m args below meth c 11 cy D B cells9 slots9 Q pc9 lcs9 [.int w119.1] σ (Y ++ hdL cy aH aR w119.2)) b119) b2) → X p l e R s m args below meth c 11 cy D B ((((0 + 17) + 1) + 1) + (9 - (n119 + 1)) * 4) ((((0 + 51) + 6) + 6) + (9 - (n119 + 1)) * 24) Q 150 [(0, .ref (B + oHB)), (1, .ref (sA ek)), (2, .ref aH), (3, .int p4), (4, .int q1), (5, .int q2), (7, .int a119.1), (8, .int a119.2.1)] [.int t13, .int q1, .int p4, .ref aH, .ref (sA ek)] σ (Y ++ hdL cy aH aR a119.2.2) := by
                        intro t13 r h hA19 hB20
                        unfold jL_placed_150 at h
                        obtain ⟨q14, hk24, h⟩ := Option.bind_eq_some_iff.mp h
                        refine x_callS C (As := [.ref (sA ek), .ref aH, .int p4, .int q1, .int t13]) (rest := []) (lw_g_mk tw_1105 rfl) (okL_bedFor l cy D B ek xs L hxs hLs _ _ _ _ p4 q1 t13 a119.2.2 σ (Y ++ hdL cy aH aR a119.2.2) hdl_H (fun _ h => hdl_R h) _ hk24) rfl rfl (by rw [hR9]; decide) (lw_g_mk tw_1106 rfl) (lw_g_mk tw_0 rfl) (by decide) rfl (lw_g_mk tw_1104 rfl) rfl (Nat.le_of_ble_eq_true rfl) dL_placed_150 ⟨by rw [hRc]; omega, by rw [hRs]; omega⟩ ?_
                        refine x_istore C [(9, .int q14), (0, .ref (B + oHB)), (1, .ref (sA ek)), (2, .ref aH), (3, .int p4), (4, .int q1), (5, .int q2), (7, .int a119.1), (8, .int a119.2.1)] dL_placed_153 (by decide) rfl ?_
                        refine x_iload C dL_placed_155 0 rfl ?_
                        have hJ50 : ∀ (x15 : Int32) (r9 : (Int32 × Int32 × (Nat → Nat → Int32)) ⊕ ((Int32 × (Nat → Nat → Int32)) ⊕ (Int32 × (Nat → Nat → Int32)))), jL_placed_171 p4 a119 σ xs L q2 x15 = some r9 → (∀ a2, r9 = .inl a2 → (fun (n119 : Nat) (a119 : Int32 × Int32 × (Nat → Nat → Int32)) => X p l e R s m args below meth c 11 cy D B ((((0 + 17) + 1) + 1) + (9 - n119) * 4) ((((0 + 51) + 6) + 6) + (9 - n119) * 24) Q 119 [(0, .ref (B + oHB)), (1, .ref (sA ek)), (2, .ref aH), (3, .int p4), (4, .int q1), (5, .int q2), (7, .int a119.1), (8, .int a119.2.1)] [] σ (Y ++ hdL cy aH aR a119.2.2)) n119 a2) → (∀ b2, r9 = .inr b2 → (fun (b119 : (Int32 × (Nat → Nat → Int32)) ⊕ (Int32 × (Nat → Nat → Int32))) => Sum.elim (fun z119 => X p l e R s m args below meth c 11 cy D B ((((0 + 17) + 1) + 1) + 36) ((((0 + 51) + 6) + 6) + 216) Q 264 [(0, .ref (B + oHB)), (1, .ref (sA ek)), (3, .int p4), (5, .int q2), (7, .int z119.1)] [] σ (Y ++ hdL cy aH aR z119.2)) (fun w119 => ∀ (cells9 slots9 pc9 : Nat) (lcs9 : List (Nat × Value)), decode cL_placed pc9 = .ok (.ireturn, 1) → narrow .int (.int w119.1) = .int w119.1 → cells9 ≤ 60 → slots9 ≤ 309 → X p l e R s m args below meth c 11 cy D B cells9 slots9 Q pc9 lcs9 [.int w119.1] σ (Y ++ hdL cy aH aR w119.2)) b119) b2) → X p l e R s m args below meth c 11 cy D B ((((0 + 17) + 1) + 1) + (9 - (n119 + 1)) * 4) ((((0 + 51) + 6) + 6) + (9 - (n119 + 1)) * 24) Q 171 [(0, .ref (B + oHB)), (1, .ref (sA ek)), (2, .ref aH), (3, .int p4), (4, .int q1), (5, .int q2), (7, .int a119.1), (8, .int a119.2.1), (9, .int x15)] [] σ (Y ++ hdL cy aH aR a119.2.2) := by
                          intro x15 r h hA19 hB20
                          unfold jL_placed_171 at h
                          refine x_aload_n C dL_placed_171 rfl 0 rfl ?_
                          refine x_iload_n C dL_placed_172 rfl 3 rfl ?_
                          refine x_iload C dL_placed_173 7 rfl ?_
                          obtain ⟨q16, hk25, h⟩ := Option.bind_eq_some_iff.mp h
                          refine x_callVX C (As := [.int p4, .int a119.2.1]) (rest := []) (cells2 := (((((0 + 17) + 1) + 1) + (9 - (n119 + 1)) * 4) + 2)) (slots2 := (((((0 + 51) + 6) + 6) + (9 - (n119 + 1)) * 24) + 12)) (lw_g_mk tw_1108 rfl) (lw_g_mk tw_1109 rfl) (c_HB) (C1 := "HostelBeds") (T := TX5) (N := 12) (ci := 7) rfl (okX5_roomOf l hlf cy D B ek p4 a119.2.1 σ (Y ++ hdL cy aH aR a119.2.2) _ hk25) rfl rfl (by rw [hR9]; decide) (lw_g_mk tw_1110 rfl) (lw_g_mk tw_1 rfl) (by decide) rfl (lw_g_mk tw_1107 rfl) rfl (Nat.le_of_ble_eq_true rfl) dL_placed_175 ⟨by rw [hRc]; omega, by rw [hRs]; omega⟩ rfl rfl (fun v26 hv27 => ?_) (fun k28 hv29 => ?_)
                          · rcases q16 with x17 | e18
                            · rw [Sum.elim_inl] at h
                              have hv27 : (Sum.inl (some (Value.int x17)) : Option Value ⊕ Nat) = .inl v26 := hv27
                              cases hv27
                              refine x_iload C dL_placed_178 8 rfl ?_
                              refine x_bipush C (v := 10) dL_placed_180 (by decide) ?_
                              refine x_idiv C dL_placed_182 (by decide) ?_
                              refine x_icmp_ne C (tgt := 201) dL_placed_183 (by decide) (fun hc31 => ?_) (fun hc31 => ?_)
                              · rw [if_pos hc31] at h
                                refine x_ldc C (v := -99999999) (lw_g_mk tw_1103 rfl) dL_placed_201 ?_
                                cases h
                                exact hB20 (.inr ((-99999999 : Int32), a119.2.2)) rfl _ _ _ _ dL_placed_203 rfl (by omega) (by omega)
                              · rw [if_neg hc31] at h
                                refine x_aload_n C dL_placed_186 rfl 0 rfl ?_
                                refine x_iload_n C dL_placed_187 rfl 3 rfl ?_
                                refine x_iload C dL_placed_188 7 rfl ?_
                                obtain ⟨q19, hk32, h⟩ := Option.bind_eq_some_iff.mp h
                                refine x_callVX C (As := [.int p4, .int a119.2.1]) (rest := []) (cells2 := ((((((0 + 17) + 1) + 1) + (9 - (n119 + 1)) * 4) + 2) + 2)) (slots2 := ((((((0 + 51) + 6) + 6) + (9 - (n119 + 1)) * 24) + 12) + 12)) (lw_g_mk tw_1027 rfl) (lw_g_mk tw_1028 rfl) (c_HB) (C1 := "HostelBeds") (T := TX5) (N := 12) (ci := 7) rfl (okX5_bedOf l hlf cy D B ek p4 a119.2.1 σ (Y ++ hdL cy aH aR a119.2.2) _ hk32) rfl rfl (by rw [hR9]; decide) (lw_g_mk tw_1029 rfl) (lw_g_mk tw_1 rfl) (by decide) rfl (lw_g_mk tw_1026 rfl) rfl (Nat.le_of_ble_eq_true rfl) dL_placed_190 ⟨by rw [hRc]; omega, by rw [hRs]; omega⟩ rfl rfl (fun v33 hv34 => ?_) (fun k35 hv36 => ?_)
                                · rcases q19 with x20 | e21
                                  · rw [Sum.elim_inl] at h
                                    have hv34 : (Sum.inl (some (Value.int x20)) : Option Value ⊕ Nat) = .inl v33 := hv34
                                    cases hv34
                                    refine x_iload C dL_placed_193 8 rfl ?_
                                    refine x_bipush C (v := 10) dL_placed_195 (by decide) ?_
                                    refine x_irem C dL_placed_197 (by decide) ?_
                                    refine x_icmp_eq C (tgt := 204) dL_placed_198 (by decide) (fun hc38 => ?_) (fun hc38 => ?_)
                                    · rw [if_pos hc38] at h
                                      refine x_iconst C (v := 0) dL_placed_204 (by decide) ?_
                                      refine x_istore C [(10, .int (0 : Int32)), (0, .ref (B + oHB)), (1, .ref (sA ek)), (2, .ref aH), (3, .int p4), (4, .int q1), (5, .int q2), (7, .int a119.1), (8, .int a119.2.1), (9, .int x15)] dL_placed_205 (by decide) rfl ?_
                                      obtain ⟨b207, hk46, h⟩ := Option.bind_eq_some_iff.mp h
                                      refine x_sub [1, 2, 3, 4, 5, 6, 7, 8, 9, 0] rfl ?_
                                      refine loop_run (step := stL_placed_207 xs L p4 x15) (P := fun (a207 : Int32 × (Nat → Nat → Int32)) => X p l e R s m args below meth c 11 cy D B ((((((0 + 17) + 1) + 1) + (9 - (n119 + 1)) * 4) + 2) + 2) ((((((0 + 51) + 6) + 6) + (9 - (n119 + 1)) * 24) + 12) + 12) Q 207 [(0, .ref (B + oHB)), (1, .ref (sA ek)), (2, .ref aH), (3, .int p4), (4, .int q1), (5, .int q2), (7, .int a119.1), (8, .int a119.2.1), (9, .int x15), (10, .int a207.1)] [] σ (Y ++ hdL cy aH aR a207.2)) (K := fun (b207 : (Nat → Nat → Int32)) => X p l e R s m args below meth c 11 cy D B ((((((0 + 17) + 1) + 1) + (9 - (n119 + 1)) * 4) + 2) + 2) ((((((0 + 51) + 6) + 6) + (9 - (n119 + 1)) * 24) + 12) + 12) Q 240 [(0, .ref (B + oHB)), (1, .ref (sA ek)), (2, .ref aH), (3, .int p4), (4, .int q1), (5, .int q2), (7, .int a119.1), (8, .int a119.2.1), (9, .int x15)] [] σ (Y ++ hdL cy aH aR b207)) ?_ 5000 ((0 : Int32), a119.2.2) b207 hk46 ?_
                                      · intro a207 r h hA39 hB40
                                        unfold stL_placed_207 at h
                                        refine x_iload C dL_placed_207 9 rfl ?_
                                        refine x_bipush C (v := 30) dL_placed_209 (by decide) ?_
                                        refine x_icmp_ge C (tgt := 240) dL_placed_211 (by decide) (fun hc41 => ?_) (fun hc41 => ?_)
                                        · rw [if_pos hc41] at h
                                          cases h
                                          refine x_sub [0, 1, 2, 3, 4, 5, 6, 7, 8] rfl ?_
                                          exact hB40 a207.2 rfl
                                        · rw [if_neg hc41] at h
                                          refine x_aload_n C dL_placed_214 rfl 1 rfl ?_
                                          refine x_iload_n C dL_placed_215 rfl 3 rfl ?_
                                          refine x_iload C dL_placed_216 9 rfl ?_
                                          obtain ⟨q22, hk42, h⟩ := Option.bind_eq_some_iff.mp h
                                          refine x_callS C (As := [.ref (sA ek), .int p4, .int a207.1]) (rest := []) (lw_g_mk tw_1068 rfl) (okL_isIn l cy D B ek xs L hxs hLs p4 a207.1 σ (Y ++ hdL cy aH aR a207.2) _ hk42) rfl rfl (by rw [hR9]; decide) (lw_g_mk tw_1069 rfl) (lw_g_mk tw_0 rfl) (by decide) rfl (lw_g_mk tw_1067 rfl) rfl (Nat.le_of_ble_eq_true rfl) dL_placed_218 ⟨by rw [hRc]; omega, by rw [hRs]; omega⟩ ?_
                                          refine x_if_eq C (tgt := 234) dL_placed_221 (by decide) (fun hc43 => ?_) (fun hc43 => ?_)
                                          · rw [if_pos hc43] at h
                                            refine x_iinc C (k := 9) [(10, .int (a207.1 + (1 : Int32))), (0, .ref (B + oHB)), (1, .ref (sA ek)), (2, .ref aH), (3, .int p4), (4, .int q1), (5, .int q2), (7, .int a119.1), (8, .int a119.2.1), (9, .int x15)] dL_placed_234 rfl rfl (by decide) rfl ?_
                                            refine x_goto C (tgt := 207) dL_placed_237 (by decide) ?_
                                            cases h
                                            refine x_sub [1, 2, 3, 4, 5, 6, 7, 8, 9, 0] rfl ?_
                                            exact hA39 (a207.1 + (1 : Int32), a207.2) rfl
                                          · rw [if_neg hc43] at h
                                            refine x_aload_n C dL_placed_224 rfl 2 rfl ?_
                                            refine x_iload C dL_placed_225 8 rfl ?_
                                            obtain ⟨hg44, h⟩ := gd_some h
                                            refine x_aldR C _ (wl_ex hdl_H) hg44 (if_pos (inb_lt hg44)) dL_placed_227 ?_
                                            refine x_iload C dL_placed_228 9 rfl ?_
                                            refine x_iload_n C dL_placed_230 rfl 3 rfl ?_
                                            refine x_iconst C (v := 1) dL_placed_231 (by decide) ?_
                                            refine x_iadd C dL_placed_232 ?_
                                            obtain ⟨hg45, h⟩ := gd_some h
                                            refine x_iast C _ (wl_ex (hdl_R (inb_lt hg44))) hg45 dL_placed_233 (wl_exs (hdl_set (inb_lt hg44))) ?_
                                            refine x_iinc C (k := 9) [(10, .int (a207.1 + (1 : Int32))), (0, .ref (B + oHB)), (1, .ref (sA ek)), (2, .ref aH), (3, .int p4), (4, .int q1), (5, .int q2), (7, .int a119.1), (8, .int a119.2.1), (9, .int x15)] dL_placed_234 rfl rfl (by decide) rfl ?_
                                            refine x_goto C (tgt := 207) dL_placed_237 (by decide) ?_
                                            cases h
                                            refine x_sub [1, 2, 3, 4, 5, 6, 7, 8, 9, 0] rfl ?_
                                            exact hA39 (a207.1 + (1 : Int32), hdUp a207.2 x15.toNatClampNeg (upd (a207.2 x15.toNatClampNeg) a207.1.toNatClampNeg (p4 + (1 : Int32)))) rfl
                                      · show X p l e R s m args below meth c 11 cy D B ((((((0 + 17) + 1) + 1) + (9 - (n119 + 1)) * 4) + 2) + 2) ((((((0 + 51) + 6) + 6) + (9 - (n119 + 1)) * 24) + 12) + 12) Q 240 [(0, .ref (B + oHB)), (1, .ref (sA ek)), (2, .ref aH), (3, .int p4), (4, .int q1), (5, .int q2), (7, .int a119.1), (8, .int a119.2.1), (9, .int x15)] [] σ (Y ++ hdL cy aH aR b207)
                                        refine x_iload C dL_placed_240 6 rfl ?_
                                        refine x_aload_n C dL_placed_242 rfl 1 rfl ?_
                                        refine x_iload C dL_placed_243 8 rfl ?_
                                        refine x_bipush C (v := 10) dL_placed_245 (by decide) ?_
                                        refine x_idiv C dL_placed_247 (by decide) ?_
                                        refine x_iconst C (v := 3) dL_placed_248 (by decide) ?_
                                        obtain ⟨q23, hk47, h⟩ := Option.bind_eq_some_iff.mp h
                                        refine x_callS C (As := [.ref (sA ek), .int (x15 / (10 : Int32)), .int (3 : Int32)]) (rest := [.int a119.1]) (lw_g_mk tw_764 rfl) (okL_room l cy D B ek xs L hxs hLs (x15 / (10 : Int32)) (3 : Int32) σ (Y ++ hdL cy aH aR b207) _ hk47) rfl rfl (by rw [hR9]; decide) (lw_g_mk tw_765 rfl) (lw_g_mk tw_0 rfl) (by decide) rfl (lw_g_mk tw_763 rfl) rfl (Nat.le_of_ble_eq_true rfl) dL_placed_249 ⟨by rw [hRc]; omega, by rw [hRs]; omega⟩ ?_
                                        refine x_iload C dL_placed_252 5 rfl ?_
                                        refine x_imul C dL_placed_254 ?_
                                        refine x_iadd C dL_placed_255 ?_
                                        refine x_istore C [(7, .int (a119.1 + (q23 * q2))), (0, .ref (B + oHB)), (1, .ref (sA ek)), (2, .ref aH), (3, .int p4), (4, .int q1), (5, .int q2), (8, .int a119.2.1), (9, .int x15)] dL_placed_256 (by decide) rfl ?_
                                        refine x_iinc C (k := 7) [(8, .int (a119.2.1 + (1 : Int32))), (7, .int (a119.1 + (q23 * q2))), (0, .ref (B + oHB)), (1, .ref (sA ek)), (2, .ref aH), (3, .int p4), (4, .int q1), (5, .int q2), (9, .int x15)] dL_placed_258 rfl rfl (by decide) rfl ?_
                                        refine x_goto C (tgt := 119) dL_placed_261 (by decide) ?_
                                        cases h
                                        refine x_widen (cells2 := ((((0 + 17) + 1) + 1) + (9 - n119) * 4)) (slots2 := ((((0 + 51) + 6) + 6) + (9 - n119) * 24)) (by omega) (by omega) ?_
                                        refine x_sub [2, 3, 4, 5, 6, 7, 1, 0] rfl ?_
                                        exact hA19 (a119.1 + (q23 * q2), a119.2.1 + (1 : Int32), b207) rfl
                                    · rw [if_neg hc38] at h
                                      refine x_ldc C (v := -99999999) (lw_g_mk tw_1103 rfl) dL_placed_201 ?_
                                      cases h
                                      exact hB20 (.inr ((-99999999 : Int32), a119.2.2)) rfl _ _ _ _ dL_placed_203 rfl (by omega) (by omega)
                                  · cases hv34
                                · rcases q19 with x20 | e21
                                  · cases hv36
                                  · rw [Sum.elim_inr] at h
                                    cases h
                            · cases hv27
                          · rcases q16 with x17 | e18
                            · cases hv29
                            · rw [Sum.elim_inr] at h
                              cases h
                        refine x_if_ge C (tgt := 171) dL_placed_157 (by decide) (fun hc51 => ?_) (fun hc51 => ?_)
                        · rw [if_pos hc51] at h
                          refine x_sub [1, 2, 3, 4, 5, 6, 7, 8, 0] rfl ?_
                          exact hJ50 q14 _ h hA19 hB20
                        · rw [if_neg hc51] at h
                          refine x_aload_n C dL_placed_160 rfl 2 rfl ?_
                          refine x_aload_n C dL_placed_161 rfl 3 rfl ?_
                          refine x_iload_n C dL_placed_162 rfl 4 rfl ?_
                          refine x_iload C dL_placed_163 5 rfl ?_
                          refine x_iconst C (v := 0) dL_placed_165 (by decide) ?_
                          obtain ⟨q24, hk52, h⟩ := Option.bind_eq_some_iff.mp h
                          refine x_callS C (As := [.ref (sA ek), .ref aH, .int p4, .int q1, .int (0 : Int32)]) (rest := []) (lw_g_mk tw_1105 rfl) (okL_bedFor l cy D B ek xs L hxs hLs _ _ _ _ p4 q1 (0 : Int32) a119.2.2 σ (Y ++ hdL cy aH aR a119.2.2) hdl_H (fun _ h => hdl_R h) _ hk52) rfl rfl (by rw [hR9]; decide) (lw_g_mk tw_1106 rfl) (lw_g_mk tw_0 rfl) (by decide) rfl (lw_g_mk tw_1104 rfl) rfl (Nat.le_of_ble_eq_true rfl) dL_placed_166 ⟨by rw [hRc]; omega, by rw [hRs]; omega⟩ ?_
                          refine x_istore C [(9, .int q24), (0, .ref (B + oHB)), (1, .ref (sA ek)), (2, .ref aH), (3, .int p4), (4, .int q1), (5, .int q2), (7, .int a119.1), (8, .int a119.2.1)] dL_placed_169 (by decide) rfl ?_
                          refine x_sub [1, 2, 3, 4, 5, 6, 7, 8, 0] rfl ?_
                          exact hJ50 q24 _ h hA19 hB20
                      refine x_icmp_ge C (tgt := 149) dL_placed_142 (by decide) (fun hc54 => ?_) (fun hc54 => ?_)
                      · rw [if_pos hc54] at h
                        refine x_iconst C (v := 2) dL_placed_149 (by decide) ?_
                        exact hJ53 (2 : Int32) _ h hA19 hB20
                      · rw [if_neg hc54] at h
                        refine x_iconst C (v := 1) dL_placed_145 (by decide) ?_
                        refine x_goto C (tgt := 150) dL_placed_146 (by decide) ?_
                        exact hJ53 (1 : Int32) _ h hA19 hB20
                  · rcases b119 with z119 | w119
                    · rw [Sum.elim_inl] at h
                      show X p l e R s m args below meth c 11 cy D B ((((0 + 17) + 1) + 1) + 36) ((((0 + 51) + 6) + 6) + 216) Q 264 [(0, .ref (B + oHB)), (1, .ref (sA ek)), (3, .int p4), (5, .int q2), (7, .int z119.1)] [] σ (Y ++ hdL cy aH aR z119.2)
                      refine x_iload C dL_placed_264 3 rfl ?_
                      refine x_aload_n C dL_placed_266 rfl 1 rfl ?_
                      refine x_iconst C (v := 2) dL_placed_267 (by decide) ?_
                      obtain ⟨q25, hk56, h⟩ := Option.bind_eq_some_iff.mp h
                      refine x_callS C (As := [.ref (sA ek), .int (2 : Int32)]) (rest := [.int q2]) (lw_g_mk tw_949 rfl) (okL_setting l cy D B ek xs L hxs hLs (2 : Int32) σ (Y ++ hdL cy aH aR z119.2) _ hk56) rfl rfl (by rw [hR9]; decide) (lw_g_mk tw_950 rfl) (lw_g_mk tw_0 rfl) (by decide) rfl (lw_g_mk tw_948 rfl) rfl (Nat.le_of_ble_eq_true rfl) dL_placed_268 ⟨by rw [hRc]; omega, by rw [hRs]; omega⟩ ?_
                      have hJ65 : ∀ (t26 : Int32) (r9 : Int32 × (Nat → Nat → Int32)), jL_placed_293 p4 σ z119 t26 = some r9 → (∀ (cells9 slots9 pc9 : Nat) (lcs9 : List (Nat × Value)), decode cL_placed pc9 = .ok (.ireturn, 1) → narrow .int (.int r9.1) = .int r9.1 → cells9 ≤ 60 → slots9 ≤ 309 → X p l e R s m args below meth c 11 cy D B cells9 slots9 Q pc9 lcs9 [.int r9.1] σ (Y ++ hdL cy aH aR r9.2)) → X p l e R s m args below meth c 11 cy D B ((((0 + 17) + 1) + 1) + 36) ((((0 + 51) + 6) + 6) + 216) Q 293 [(0, .ref (B + oHB)), (3, .int p4)] [.int t26] σ (Y ++ hdL cy aH aR z119.2) := by
                        intro t26 res9 h hret
                        unfold jL_placed_293 at h
                        refine x_istore C [(7, .int t26), (0, .ref (B + oHB)), (3, .int p4)] dL_placed_293 (by decide) rfl ?_
                        refine x_aload_n C dL_placed_295 rfl 1 rfl ?_
                        refine x_iload_n C dL_placed_296 rfl 2 rfl ?_
                        obtain ⟨q27, hk57, h⟩ := Option.bind_eq_some_iff.mp h
                        refine x_callVX C (As := [.int p4]) (rest := []) (cells2 := (((((0 + 17) + 1) + 1) + 36) + 1)) (slots2 := (((((0 + 51) + 6) + 6) + 216) + 6)) (lw_g_mk tw_468 rfl) (lw_g_mk tw_469 rfl) (c_HB) (C1 := "HostelBeds") (T := TX5) (N := 12) (ci := 7) rfl (okX5_pays l hlf cy D B ek p4 σ (Y ++ hdL cy aH aR z119.2) _ hk57) rfl rfl (by rw [hR9]; decide) (lw_g_mk tw_470 rfl) (lw_g_mk tw_1 rfl) (by decide) rfl (lw_g_mk tw_467 rfl) rfl (Nat.le_of_ble_eq_true rfl) dL_placed_297 ⟨by rw [hRc]; omega, by rw [hRs]; omega⟩ rfl rfl (fun v58 hv59 => ?_) (fun k60 hv61 => ?_)
                        · rcases q27 with x28 | e29
                          · rw [Sum.elim_inl] at h
                            have hv59 : (Sum.inl (some (Value.int x28)) : Option Value ⊕ Nat) = .inl v58 := hv59
                            cases hv59
                            refine x_iload C dL_placed_300 0 rfl ?_
                            refine x_icmp_ne C (tgt := 310) dL_placed_302 (by decide) (fun hc63 => ?_) (fun hc63 => ?_)
                            · rw [if_pos hc63] at h
                              refine x_ldc C (v := -99999999) (lw_g_mk tw_1103 rfl) dL_placed_310 ?_
                              cases h
                              exact hret _ _ _ _ dL_placed_312 rfl (by omega) (by omega)
                            · rw [if_neg hc63] at h
                              refine x_iload C dL_placed_305 0 rfl ?_
                              refine x_goto C (tgt := 312) dL_placed_307 (by decide) ?_
                              cases h
                              exact hret _ _ _ _ dL_placed_312 rfl (by omega) (by omega)
                          · cases hv59
                        · rcases q27 with x28 | e29
                          · cases hv61
                          · rw [Sum.elim_inr] at h
                            cases h
                      refine x_icmp_lt C (tgt := 291) dL_placed_271 (by decide) (fun hc66 => ?_) (fun hc66 => ?_)
                      · rw [if_pos hc66] at h
                        refine x_iload C dL_placed_291 4 rfl ?_
                        refine x_sub [0, 2] rfl ?_
                        exact hJ65 z119.1 _ h hret
                      · rw [if_neg hc66] at h
                        refine x_iload C dL_placed_274 4 rfl ?_
                        refine x_bipush C (v := 100) dL_placed_276 (by decide) ?_
                        refine x_aload_n C dL_placed_278 rfl 1 rfl ?_
                        refine x_iconst C (v := 3) dL_placed_279 (by decide) ?_
                        obtain ⟨q30, hk67, h⟩ := Option.bind_eq_some_iff.mp h
                        refine x_callS C (As := [.ref (sA ek), .int (3 : Int32)]) (rest := [.int (100 : Int32), .int z119.1]) (lw_g_mk tw_949 rfl) (okL_setting l cy D B ek xs L hxs hLs (3 : Int32) σ (Y ++ hdL cy aH aR z119.2) _ hk67) rfl rfl (by rw [hR9]; decide) (lw_g_mk tw_950 rfl) (lw_g_mk tw_0 rfl) (by decide) rfl (lw_g_mk tw_948 rfl) rfl (Nat.le_of_ble_eq_true rfl) dL_placed_280 ⟨by rw [hRc]; omega, by rw [hRs]; omega⟩ ?_
                        refine x_isub C dL_placed_283 ?_
                        refine x_imul C dL_placed_284 ?_
                        refine x_bipush C (v := 100) dL_placed_285 (by decide) ?_
                        refine x_idiv C dL_placed_287 (by decide) ?_
                        refine x_goto C (tgt := 293) dL_placed_288 (by decide) ?_
                        refine x_sub [0, 2] rfl ?_
                        exact hJ65 ((z119.1 * ((100 : Int32) - q30)) / (100 : Int32)) _ h hret
                    · rw [Sum.elim_inr] at h
                      show ∀ (cells9 slots9 pc9 : Nat) (lcs9 : List (Nat × Value)), decode cL_placed pc9 = .ok (.ireturn, 1) → narrow .int (.int w119.1) = .int w119.1 → cells9 ≤ 60 → slots9 ≤ 309 → X p l e R s m args below meth c 11 cy D B cells9 slots9 Q pc9 lcs9 [.int w119.1] σ (Y ++ hdL cy aH aR w119.2)
                      cases h
                      exact hret
                · rw [if_neg hc18] at h
                  refine x_ldc C (v := -99999999) (lw_g_mk tw_1103 rfl) dL_placed_110 ?_
                  cases h
                  exact hret _ _ _ _ dL_placed_112 rfl (by omega) (by omega)
              · cases hv14
            · rcases q8 with x9 | e10
              · cases hv16
              · rw [Sum.elim_inr] at h
                cases h
        refine x_icmp_ne C (tgt := 96) dL_placed_89 (by decide) (fun hc70 => ?_) (fun hc70 => ?_)
        · rw [if_pos hc70] at h
          refine x_iconst C (v := 2) dL_placed_96 (by decide) ?_
          refine x_sub [3, 4, 5, 6, 2, 1] rfl ?_
          exact hJ69 (2 : Int32) _ h hret
        · rw [if_neg hc70] at h
          refine x_iconst C (v := 1) dL_placed_92 (by decide) ?_
          refine x_goto C (tgt := 97) dL_placed_93 (by decide) ?_
          refine x_sub [3, 4, 5, 6, 2, 1] rfl ?_
          exact hJ69 (1 : Int32) _ h hret
      · rw [if_neg hc9] at h
        refine x_iload C dL_placed_28 0 rfl ?_
        refine x_iconst C (v := 3) dL_placed_30 (by decide) ?_
        have hJ71 : ∀ (r9 : Int32 × (Nat → Nat → Int32)), jL_placed_78 hd = some r9 → (∀ (cells9 slots9 pc9 : Nat) (lcs9 : List (Nat × Value)), decode cL_placed pc9 = .ok (.ireturn, 1) → narrow .int (.int r9.1) = .int r9.1 → cells9 ≤ 60 → slots9 ≤ 309 → X p l e R s m args below meth c 11 cy D B cells9 slots9 Q pc9 lcs9 [.int r9.1] σ (Y ++ hdL cy aH aR r9.2)) → X p l e R s m args below meth c 11 cy D B (((0 + 17) + 1) + 4) (((0 + 51) + 6) + 24) Q 78 [] [] σ (Y ++ hdL cy aH aR hd) := by
          intro res9 h hret
          unfold jL_placed_78 at h
          refine x_ldc C (v := -99999999) (lw_g_mk tw_1103 rfl) dL_placed_78 ?_
          cases h
          exact hret _ _ _ _ dL_placed_80 rfl (by omega) (by omega)
        refine x_icmp_ne C (tgt := 78) dL_placed_31 (by decide) (fun hc72 => ?_) (fun hc72 => ?_)
        · rw [if_pos hc72] at h
          refine x_widen (cells2 := (((0 + 17) + 1) + 4)) (slots2 := (((0 + 51) + 6) + 24)) (by omega) (by omega) ?_
          refine x_sub [] rfl ?_
          exact hJ71 _ h hret
        · rw [if_neg hc72] at h
          refine x_aload_n C dL_placed_34 rfl 3 rfl ?_
          refine x_iload_n C dL_placed_35 rfl 6 rfl ?_
          obtain ⟨q31, hk73, h⟩ := Option.bind_eq_some_iff.mp h
          refine x_callVX C (As := [.int p4]) (rest := []) (cells2 := (((0 + 17) + 1) + 1)) (slots2 := (((0 + 51) + 6) + 6)) (lw_g_mk tw_1100 rfl) (lw_g_mk tw_1101 rfl) (c_HB) (C1 := "HostelBeds") (T := TX5) (N := 12) (ci := 7) rfl (okX5_roomsOf l hlf cy D B ek p4 σ (Y ++ hdL cy aH aR hd) _ hk73) rfl rfl (by rw [hR9]; decide) (lw_g_mk tw_1102 rfl) (lw_g_mk tw_1 rfl) (by decide) rfl (lw_g_mk tw_1099 rfl) rfl (Nat.le_of_ble_eq_true rfl) dL_placed_36 ⟨by rw [hRc]; omega, by rw [hRs]; omega⟩ rfl rfl (fun v74 hv75 => ?_) (fun k76 hv77 => ?_)
          · rcases q31 with x32 | e33
            · rw [Sum.elim_inl] at h
              have hv75 : (Sum.inl (some (Value.int x32)) : Option Value ⊕ Nat) = .inl v74 := hv75
              cases hv75
              refine x_if_ne C (tgt := 78) dL_placed_39 (by decide) (fun hc79 => ?_) (fun hc79 => ?_)
              · rw [if_pos hc79] at h
                refine x_widen (cells2 := (((0 + 17) + 1) + 4)) (slots2 := (((0 + 51) + 6) + 24)) (by omega) (by omega) ?_
                refine x_sub [] rfl ?_
                exact hJ71 _ h hret
              · rw [if_neg hc79] at h
                refine x_aload_n C dL_placed_42 rfl 3 rfl ?_
                refine x_iload_n C dL_placed_43 rfl 6 rfl ?_
                obtain ⟨q34, hk80, h⟩ := Option.bind_eq_some_iff.mp h
                refine x_callVX C (As := [.int p4]) (rest := []) (cells2 := ((((0 + 17) + 1) + 1) + 1)) (slots2 := ((((0 + 51) + 6) + 6) + 6)) (lw_g_mk tw_468 rfl) (lw_g_mk tw_469 rfl) (c_HB) (C1 := "HostelBeds") (T := TX5) (N := 12) (ci := 7) rfl (okX5_pays l hlf cy D B ek p4 σ (Y ++ hdL cy aH aR hd) _ hk80) rfl rfl (by rw [hR9]; decide) (lw_g_mk tw_470 rfl) (lw_g_mk tw_1 rfl) (by decide) rfl (lw_g_mk tw_467 rfl) rfl (Nat.le_of_ble_eq_true rfl) dL_placed_44 ⟨by rw [hRc]; omega, by rw [hRs]; omega⟩ rfl rfl (fun v81 hv82 => ?_) (fun k83 hv84 => ?_)
                · rcases q34 with x35 | e36
                  · rw [Sum.elim_inl] at h
                    have hv82 : (Sum.inl (some (Value.int x35)) : Option Value ⊕ Nat) = .inl v81 := hv82
                    cases hv82
                    refine x_if_ne C (tgt := 78) dL_placed_47 (by decide) (fun hc86 => ?_) (fun hc86 => ?_)
                    · rw [if_pos hc86] at h
                      refine x_widen (cells2 := (((0 + 17) + 1) + 4)) (slots2 := (((0 + 51) + 6) + 24)) (by omega) (by omega) ?_
                      refine x_sub [] rfl ?_
                      exact hJ71 _ h hret
                    · rw [if_neg hc86] at h
                      refine x_aload_n C dL_placed_50 rfl 3 rfl ?_
                      refine x_iload_n C dL_placed_51 rfl 6 rfl ?_
                      refine x_iconst C (v := 0) dL_placed_52 (by decide) ?_
                      obtain ⟨q37, hk87, h⟩ := Option.bind_eq_some_iff.mp h
                      refine x_callSW C (As := [.ref (B + oHB), .int p4, .int (0 : Int32)]) (rest := []) (cells2 := (((((0 + 17) + 1) + 1) + 1) + 2)) (slots2 := (((((0 + 51) + 6) + 6) + 6) + 12)) (lw_g_mk tw_1022 rfl) (okL_noBed l hlf cy D B ek p4 (0 : Int32) σ (Y ++ hdL cy aH aR hd) _ hk87) rfl rfl (by rw [hR9]; decide) (lw_g_mk tw_1023 rfl) (lw_g_mk tw_0 rfl) (by decide) rfl (lw_g_mk tw_1021 rfl) rfl (Nat.le_of_ble_eq_true rfl) dL_placed_53 ⟨by rw [hRc]; omega, by rw [hRs]; omega⟩ rfl rfl ?_
                      refine x_iconst C (v := 2) dL_placed_56 (by decide) ?_
                      refine x_icmp_ne C (tgt := 78) dL_placed_57 (by decide) (fun hc88 => ?_) (fun hc88 => ?_)
                      · rw [if_pos hc88] at h
                        refine x_widen (cells2 := (((0 + 17) + 1) + 4)) (slots2 := (((0 + 51) + 6) + 24)) (by omega) (by omega) ?_
                        refine x_sub [] rfl ?_
                        exact hJ71 _ h hret
                      · rw [if_neg hc88] at h
                        refine x_aload_n C dL_placed_60 rfl 4 rfl ?_
                        refine x_iconst C (v := 1) dL_placed_61 (by decide) ?_
                        obtain ⟨q38, hk89, h⟩ := Option.bind_eq_some_iff.mp h
                        refine x_callS C (As := [.ref (sA ek), .int (1 : Int32)]) (rest := []) (lw_g_mk tw_949 rfl) (okL_setting l cy D B ek xs L hxs hLs (1 : Int32) σ (Y ++ hdL cy aH aR hd) _ hk89) rfl rfl (by rw [hR9]; decide) (lw_g_mk tw_950 rfl) (lw_g_mk tw_0 rfl) (by decide) rfl (lw_g_mk tw_948 rfl) rfl (Nat.le_of_ble_eq_true rfl) dL_placed_62 ⟨by rw [hRc]; omega, by rw [hRs]; omega⟩ ?_
                        refine x_ineg C dL_placed_65 ?_
                        refine x_aload_n C dL_placed_66 rfl 4 rfl ?_
                        refine x_iload_n C dL_placed_67 rfl 6 rfl ?_
                        obtain ⟨q39, hk90, h⟩ := Option.bind_eq_some_iff.mp h
                        refine x_callS C (As := [.ref (sA ek), .int p4]) (rest := [.int (-q38)]) (lw_g_mk tw_1059 rfl) (okL_people l cy D B ek xs L hxs hLs p4 σ (Y ++ hdL cy aH aR hd) _ hk90) rfl rfl (by rw [hR9]; decide) (lw_g_mk tw_1060 rfl) (lw_g_mk tw_0 rfl) (by decide) rfl (lw_g_mk tw_1058 rfl) rfl (Nat.le_of_ble_eq_true rfl) dL_placed_68 ⟨by rw [hRc]; omega, by rw [hRs]; omega⟩ ?_
                        refine x_imul C dL_placed_71 ?_
                        refine x_iload C dL_placed_72 1 rfl ?_
                        refine x_imul C dL_placed_74 ?_
                        refine x_goto C (tgt := 80) dL_placed_75 (by decide) ?_
                        cases h
                        exact hret _ _ _ _ dL_placed_80 rfl (by omega) (by omega)
                  · cases hv82
                · rcases q34 with x35 | e36
                  · cases hv84
                  · rw [Sum.elim_inr] at h
                    cases h
            · cases hv75
          · rcases q31 with x32 | e33
            · cases hv77
            · rw [Sum.elim_inr] at h
              cases h
    · cases hv5
  · rcases q3 with x4 | e5
    · cases hv7
    · rw [Sum.elim_inr] at h
      cases h
def stL_isHostel_25 (xs : (Nat → Int32)) (L : Nat) (ac : (Nat → Int32)) (a15 : Int32 × Int32 × (Nat → Nat → Int32)) (σ : Mem) (a25 : Int32 × Int32 × (Nat → Nat → Int32)) : Option ((Int32 × Int32 × (Nat → Nat → Int32)) ⊕ ((Int32 × (Nat → Nat → Int32)) ⊕ (Int32))) := ((fL_bookingsOf xs L).bind fun q1 => (if q1 ≤ a25.2.1 then (some (.inr (.inl (a25.1, a25.2.2)))) else (gd (inb a25.2.1 8) (if (ac a25.2.1.toNatClampNeg) = 0 then (some (.inl (a25.1, a25.2.1 + (1 : Int32), a25.2.2))) else ((fL_booking xs L a25.2.1 (0 : Int32)).bind fun q2 => (if q2 = a15.2.1 then ((fL_placed xs L a25.2.1 σ a25.2.2).bind fun q3 => (if ¬ q3.1 = (-99999999 : Int32) then (some (.inl (a25.1 + q3.1, a25.2.1 + (1 : Int32), q3.2))) else (some (.inr (.inr ((0 : Int32))))))) else (some (.inl (a25.1, a25.2.1 + (1 : Int32), a25.2.2)))))))))
def stL_isHostel_15 (xs : (Nat → Int32)) (L : Nat) (ac : (Nat → Int32)) (σ : Mem) (a15 : Int32 × Int32 × (Nat → Nat → Int32)) : Option ((Int32 × Int32 × (Nat → Nat → Int32)) ⊕ ((Int32 × (Nat → Nat → Int32)) ⊕ (Int32))) := (if (30 : Int32) ≤ a15.2.1 then (some (.inr (.inl (a15.1, a15.2.2)))) else ((loop (stL_isHostel_25 xs L ac a15 σ) 9 (a15.1, (0 : Int32), a15.2.2)).bind fun b25 => Sum.elim (fun z25 => (some (.inl (z25.1, a15.2.1 + (1 : Int32), z25.2)))) (fun w25 => (some (.inr (.inr w25)))) b25))
def jL_isHostel_200 (a113 : Int32 × Int32) (t11 : Int32) : Option ((Int32 × Int32) ⊕ ((Int32) ⊕ (Int32))) := (some (.inl (a113.1 + t11, a113.2 + (1 : Int32))))
def stL_isHostel_113 (xs : (Nat → Int32)) (L : Nat) (q5 : Int32) (σ : Mem) (z15 : Int32 × (Nat → Nat → Int32)) (a113 : Int32 × Int32) : Option ((Int32 × Int32) ⊕ ((Int32) ⊕ (Int32))) := (if (40 : Int32) ≤ a113.2 then (some (.inr (.inl a113.1))) else ((fL_roomsOf xs L).bind fun q6 => (if q6 ≤ (a113.2 / (10 : Int32)) then (some (.inl (a113.1, a113.2 + (1 : Int32)))) else ((fL_room xs L (a113.2 / (10 : Int32)) (1 : Int32)).bind fun q7 => (if (a113.2 - a113.2 / (10 : Int32) * (10 : Int32)) < q7 then ((fX5_occupant (a113.2 / (10 : Int32)) (a113.2 - a113.2 / (10 : Int32) * (10 : Int32)) q5 σ).bind fun q8 => Sum.elim (fun x9 => (gd (inb a113.2 40) (gd (inb q5 30) (if x9 = ((z15.2 a113.2.toNatClampNeg q5.toNatClampNeg) - (1 : Int32)) then (if (z15.2 a113.2.toNatClampNeg q5.toNatClampNeg) ≤ 0 then (jL_isHostel_200 a113 (0 : Int32)) else (jL_isHostel_200 a113 (1 : Int32))) else (some (.inr (.inr ((0 : Int32))))))))) (fun e10 => none) q8) else (some (.inl (a113.1, a113.2 + (1 : Int32)))))))))
def jL_isHostel_249 : Option (Int32) := (some ((0 : Int32)))
def fL_isHostel (xs : Nat → Int32) (L : Nat) (σ : Mem) (ac : (Nat → Int32)) : Option (Int32) := ((loop (stL_isHostel_15 xs L ac σ) 32 ((0 : Int32), (0 : Int32), (fun _ _ => 0))).bind fun b15 => Sum.elim (fun z15 => ((fL_cell xs L (13 : Int32)).bind fun q4 => ((fL_part q4 (30 : Int32)).bind fun q5 => ((loop (stL_isHostel_113 xs L q5 σ z15) 42 ((0 : Int32), (0 : Int32))).bind fun b113 => Sum.elim (fun z113 => ((fX5_net σ).bind fun q12 => (if ¬ q12 = z15.1 then (jL_isHostel_249) else ((fX5_occupied q5 σ).bind fun q13 => Sum.elim (fun x14 => (if ¬ x14 = z113 then (jL_isHostel_249) else ((fX5_booked q5 σ).bind fun q16 => Sum.elim (fun x17 => ((fL_booked xs L q5 ac).bind fun q19 => (if ¬ x17 = q19 then (jL_isHostel_249) else (some ((1 : Int32)))))) (fun e18 => none) q16))) (fun e15 => none) q13)))) (fun w113 => (some w113)) b113)))) (fun w15 => (some w15)) b15)
set_option maxHeartbeats 4000000 in
set_option maxRecDepth 100000 in
theorem okL_isHostel (l : Launch) (hlf : l.stackTraces = false) (cy : Nat → ClassId) (D : va_G) (B : Nat) (ek : EK) (xs : Nat → Int32) (L : Nat) (hxs : xs = sX ek) (hLs : L = sL ek) (aA : Nat) (iA : Nat) (ac : (Nat → Int32)) (σ : Mem) (Y : va_W) (hA : Y[iA]? = some (cAc cy aA ac)) (res : Int32) (h : fL_isHostel xs L σ ac = some res) : CTE l cy D B ek yL_isHostel cL_isHostel 8 (some .boolean) ({ frames := 11, cells := 17449, slots := 91000, locals := 238 } : Room) 17449 91000 [.ref (B + oHB), .ref (sA ek), .ref aA] σ Y (fun v9 σ9 Y9 => v9 = (some (.int res)) ∧ σ9 = σ ∧ Y9 = Y) := by
  refine met_XE (own := "HostelBedsLaw") (by decide) rfl (Nat.le_of_ble_eq_true rfl) ?_
  intro p e s m args below meth c C hrT hlk
  have hAO : va_AOA .int s := hAO0 C
  have hret : ∀ (cells9 slots9 pc9 : Nat) (lcs9 : List (Nat × Value)), decode cL_isHostel pc9 = .ok (.ireturn, 1) → narrow .boolean (.int res) = .int res → cells9 ≤ 17449 → slots9 ≤ 91000 → X p l e ({ frames := 11, cells := 17449, slots := 91000, locals := 238 } : Room) s m args below meth c 8 cy D B cells9 slots9 (MQ below (QE cy D B (fun v9 σ9 Y9 => v9 = (some (.int res)) ∧ σ9 = σ ∧ Y9 = Y)) args s 17449 91000 (aB B)) pc9 lcs9 [.int res] σ Y := fun cells9 slots9 pc9 lcs9 hd hn h1 h2 => x_zretE C hrT hlk hn hd h1 h2 ⟨rfl, rfl, rfl⟩
  generalize (MQ below (QE cy D B (fun v9 σ9 Y9 => v9 = (some (.int res)) ∧ σ9 = σ ∧ Y9 = Y)) args s 17449 91000 (aB B)) = Q at hret ⊢
  obtain ⟨R, hR9⟩ : ∃ R : Room, R = ({ frames := 11, cells := 17449, slots := 91000, locals := 238 } : Room) := ⟨_, rfl⟩
  rw [← hR9] at hret ⊢
  have hRc : R.cells = 17449 := by rw [hR9]
  have hRs : R.slots = 91000 := by rw [hR9]
  unfold fL_isHostel at h
  show X p l e R s m args below meth c 8 cy D B 0 0 Q 0 [(0, .ref (B + oHB)), (1, .ref (sA ek)), (2, .ref aA)] [] σ Y
  refine x_bipush C (v := 40) dL_isHostel_0 (by decide) ?_
  refine x_bipush C (v := 30) dL_isHostel_2 (by decide) ?_
  refine x_multi C (lw_g_mk tw_1077 rfl) tw_1078 hAO (lw_g_mk tw_105 rfl) (by rw [hRc]; omega) (by rw [hRs]; omega) dL_isHostel_4 (fun aH aR => ?_)
  refine x_astore_n C [(3, .ref aH), (0, .ref (B + oHB)), (1, .ref (sA ek)), (2, .ref aA)] dL_isHostel_8 rfl (by decide) rfl ?_
  refine x_iconst C (v := 0) dL_isHostel_9 (by decide) ?_
  refine x_istore C [(4, .int (0 : Int32)), (3, .ref aH), (0, .ref (B + oHB)), (1, .ref (sA ek)), (2, .ref aA)] dL_isHostel_10 (by decide) rfl ?_
  refine x_iconst C (v := 0) dL_isHostel_12 (by decide) ?_
  refine x_istore C [(5, .int (0 : Int32)), (4, .int (0 : Int32)), (3, .ref aH), (0, .ref (B + oHB)), (1, .ref (sA ek)), (2, .ref aA)] dL_isHostel_13 (by decide) rfl ?_
  obtain ⟨b15, hk15, h⟩ := Option.bind_eq_some_iff.mp h
  refine x_sub [3, 4, 5, 2, 1, 0] rfl ?_
  refine x_widen (cells2 := ((0 + 41) + (32 - 32) * 540)) (slots2 := ((0 + 1240) + (32 - 32) * 2781)) (by omega) (by omega) ?_
  refine loop_runN (N := 32) (step := stL_isHostel_15 xs L ac σ) (P := fun (n15 : Nat) (a15 : Int32 × Int32 × (Nat → Nat → Int32)) => X p l e R s m args below meth c 8 cy D B ((0 + 41) + (32 - n15) * 540) ((0 + 1240) + (32 - n15) * 2781) Q 15 [(0, .ref (B + oHB)), (1, .ref (sA ek)), (2, .ref aA), (3, .ref aH), (4, .int a15.1), (5, .int a15.2.1)] [] σ (Y ++ hdL cy aH aR a15.2.2)) (K := fun (b15 : (Int32 × (Nat → Nat → Int32)) ⊕ (Int32)) => Sum.elim (fun z15 => X p l e R s m args below meth c 8 cy D B ((0 + 41) + 17280) ((0 + 1240) + 88992) Q 94 [(0, .ref (B + oHB)), (1, .ref (sA ek)), (2, .ref aA), (3, .ref aH), (4, .int z15.1)] [] σ (Y ++ hdL cy aH aR z15.2)) (fun w15 => ∀ (cells9 slots9 pc9 : Nat) (lcs9 : List (Nat × Value)), decode cL_isHostel pc9 = .ok (.ireturn, 1) → narrow .boolean (.int w15) = .int w15 → cells9 ≤ 17449 → slots9 ≤ 91000 → X p l e R s m args below meth c 8 cy D B cells9 slots9 Q pc9 lcs9 [.int w15] σ Y) b15) ?_ 32 ((0 : Int32), (0 : Int32), (fun _ _ => 0)) b15 (Nat.le_refl _) hk15 ?_
  · intro n15 a15 r hn15 h hA1 hB2
    unfold stL_isHostel_15 at h
    refine x_iload C dL_isHostel_15 5 rfl ?_
    refine x_bipush C (v := 30) dL_isHostel_17 (by decide) ?_
    refine x_icmp_ge C (tgt := 94) dL_isHostel_19 (by decide) (fun hc3 => ?_) (fun hc3 => ?_)
    · rw [if_pos hc3] at h
      cases h
      refine x_widen (cells2 := ((0 + 41) + 17280)) (slots2 := ((0 + 1240) + 88992)) (by omega) (by omega) ?_
      refine x_sub [0, 1, 2, 3, 4] rfl ?_
      exact hB2 (.inl (a15.1, a15.2.2)) rfl
    · rw [if_neg hc3] at h
      refine x_iconst C (v := 0) dL_isHostel_22 (by decide) ?_
      refine x_istore C [(6, .int (0 : Int32)), (0, .ref (B + oHB)), (1, .ref (sA ek)), (2, .ref aA), (3, .ref aH), (4, .int a15.1), (5, .int a15.2.1)] dL_isHostel_23 (by decide) rfl ?_
      obtain ⟨b25, hk14, h⟩ := Option.bind_eq_some_iff.mp h
      refine x_sub [1, 2, 3, 4, 5, 6, 0] rfl ?_
      refine x_widen (cells2 := (((0 + 41) + (32 - (n15 + 1)) * 540) + (9 - 9) * 60)) (slots2 := (((0 + 1240) + (32 - (n15 + 1)) * 2781) + (9 - 9) * 309)) (by omega) (by omega) ?_
      refine loop_runN (N := 9) (step := stL_isHostel_25 xs L ac a15 σ) (P := fun (n25 : Nat) (a25 : Int32 × Int32 × (Nat → Nat → Int32)) => X p l e R s m args below meth c 8 cy D B (((0 + 41) + (32 - (n15 + 1)) * 540) + (9 - n25) * 60) (((0 + 1240) + (32 - (n15 + 1)) * 2781) + (9 - n25) * 309) Q 25 [(0, .ref (B + oHB)), (1, .ref (sA ek)), (2, .ref aA), (3, .ref aH), (4, .int a25.1), (5, .int a15.2.1), (6, .int a25.2.1)] [] σ (Y ++ hdL cy aH aR a25.2.2)) (K := fun (b25 : (Int32 × (Nat → Nat → Int32)) ⊕ (Int32)) => Sum.elim (fun z25 => X p l e R s m args below meth c 8 cy D B (((0 + 41) + (32 - (n15 + 1)) * 540) + 540) (((0 + 1240) + (32 - (n15 + 1)) * 2781) + 2781) Q 88 [(0, .ref (B + oHB)), (1, .ref (sA ek)), (2, .ref aA), (3, .ref aH), (4, .int z25.1), (5, .int a15.2.1)] [] σ (Y ++ hdL cy aH aR z25.2)) (fun w25 => ∀ (cells9 slots9 pc9 : Nat) (lcs9 : List (Nat × Value)), decode cL_isHostel pc9 = .ok (.ireturn, 1) → narrow .boolean (.int w25) = .int w25 → cells9 ≤ 17449 → slots9 ≤ 91000 → X p l e R s m args below meth c 8 cy D B cells9 slots9 Q pc9 lcs9 [.int w25] σ Y) b25) ?_ 9 (a15.1, (0 : Int32), a15.2.2) b25 (Nat.le_refl _) hk14 ?_
      · intro n25 a25 r hn25 h hA4 hB5
        unfold stL_isHostel_25 at h
        refine x_iload C dL_isHostel_25 6 rfl ?_
        refine x_aload_n C dL_isHostel_27 rfl 1 rfl ?_
        obtain ⟨q1, hk6, h⟩ := Option.bind_eq_some_iff.mp h
        refine x_callS C (As := [.ref (sA ek)]) (rest := [.int a25.2.1]) (lw_g_mk tw_767 rfl) (okL_bookingsOf l cy D B ek xs L hxs hLs σ (Y ++ hdL cy aH aR a25.2.2) _ hk6) rfl rfl (by rw [hR9]; decide) (lw_g_mk tw_768 rfl) (lw_g_mk tw_0 rfl) (by decide) rfl (lw_g_mk tw_766 rfl) rfl (Nat.le_of_ble_eq_true rfl) dL_isHostel_28 ⟨by rw [hRc]; omega, by rw [hRs]; omega⟩ ?_
        refine x_icmp_ge C (tgt := 88) dL_isHostel_31 (by decide) (fun hc7 => ?_) (fun hc7 => ?_)
        · rw [if_pos hc7] at h
          cases h
          refine x_widen (cells2 := (((0 + 41) + (32 - (n15 + 1)) * 540) + 540)) (slots2 := (((0 + 1240) + (32 - (n15 + 1)) * 2781) + 2781)) (by omega) (by omega) ?_
          refine x_sub [0, 1, 2, 3, 4, 5] rfl ?_
          exact hB5 (.inl (a25.1, a25.2.2)) rfl
        · rw [if_neg hc7] at h
          refine x_aload_n C dL_isHostel_34 rfl 2 rfl ?_
          refine x_iload C dL_isHostel_35 6 rfl ?_
          obtain ⟨hg8, h⟩ := gd_some h
          refine x_zald C _ (wl_ex (ap_some hA)) hg8 dL_isHostel_37 ?_
          refine x_if_eq C (tgt := 82) dL_isHostel_38 (by decide) (fun hc9 => ?_) (fun hc9 => ?_)
          · rw [if_pos hc9] at h
            refine x_iinc C (k := 6) [(6, .int (a25.2.1 + (1 : Int32))), (0, .ref (B + oHB)), (1, .ref (sA ek)), (2, .ref aA), (3, .ref aH), (4, .int a25.1), (5, .int a15.2.1)] dL_isHostel_82 rfl rfl (by decide) rfl ?_
            refine x_goto C (tgt := 25) dL_isHostel_85 (by decide) ?_
            cases h
            refine x_widen (cells2 := (((0 + 41) + (32 - (n15 + 1)) * 540) + (9 - n25) * 60)) (slots2 := (((0 + 1240) + (32 - (n15 + 1)) * 2781) + (9 - n25) * 309)) (by omega) (by omega) ?_
            refine x_sub [1, 2, 3, 4, 5, 6, 0] rfl ?_
            exact hA4 (a25.1, a25.2.1 + (1 : Int32), a25.2.2) rfl
          · rw [if_neg hc9] at h
            refine x_aload_n C dL_isHostel_41 rfl 1 rfl ?_
            refine x_iload C dL_isHostel_42 6 rfl ?_
            refine x_iconst C (v := 0) dL_isHostel_44 (by decide) ?_
            obtain ⟨q2, hk10, h⟩ := Option.bind_eq_some_iff.mp h
            refine x_callS C (As := [.ref (sA ek), .int a25.2.1, .int (0 : Int32)]) (rest := []) (lw_g_mk tw_770 rfl) (okL_booking l cy D B ek xs L hxs hLs a25.2.1 (0 : Int32) σ (Y ++ hdL cy aH aR a25.2.2) _ hk10) rfl rfl (by rw [hR9]; decide) (lw_g_mk tw_771 rfl) (lw_g_mk tw_0 rfl) (by decide) rfl (lw_g_mk tw_769 rfl) rfl (Nat.le_of_ble_eq_true rfl) dL_isHostel_45 ⟨by rw [hRc]; omega, by rw [hRs]; omega⟩ ?_
            refine x_iload C dL_isHostel_48 5 rfl ?_
            refine x_icmp_eq C (tgt := 56) dL_isHostel_50 (by decide) (fun hc11 => ?_) (fun hc11 => ?_)
            · rw [if_pos hc11] at h
              refine x_aload_n C dL_isHostel_56 rfl 0 rfl ?_
              refine x_aload_n C dL_isHostel_57 rfl 1 rfl ?_
              refine x_aload_n C dL_isHostel_58 rfl 3 rfl ?_
              refine x_iload C dL_isHostel_59 6 rfl ?_
              obtain ⟨q3, hk12, h⟩ := Option.bind_eq_some_iff.mp h
              refine x_callSE C (As := [.ref (B + oHB), .ref (sA ek), .ref aH, .int a25.2.1]) (rest := []) (lw_g_mk tw_1080 rfl) (okL_placed l hlf cy D B ek xs L hxs hLs aH aR a25.2.1 a25.2.2 σ Y _ hk12) rfl rfl (by rw [hR9]; decide) (lw_g_mk tw_1081 rfl) (lw_g_mk tw_0 rfl) (by decide) rfl (lw_g_mk tw_1079 rfl) rfl (Nat.le_of_ble_eq_true rfl) dL_isHostel_61 ⟨by rw [hRc]; omega, by rw [hRs]; omega⟩ (fun v9 σ9 Y9 hp9 => ?_)
              obtain ⟨e7, e8, e9⟩ := hp9
              rw [e7, e8, e9]
              refine x_istore C [(7, .int q3.1), (0, .ref (B + oHB)), (1, .ref (sA ek)), (2, .ref aA), (3, .ref aH), (4, .int a25.1), (5, .int a15.2.1), (6, .int a25.2.1)] dL_isHostel_64 (by decide) rfl ?_
              refine x_iload C dL_isHostel_66 0 rfl ?_
              refine x_ldc C (v := -99999999) (lw_g_mk tw_1103 rfl) dL_isHostel_68 ?_
              refine x_icmp_ne C (tgt := 75) dL_isHostel_70 (by decide) (fun hc13 => ?_) (fun hc13 => ?_)
              · rw [if_pos hc13] at h
                refine x_iload C dL_isHostel_75 5 rfl ?_
                refine x_iload C dL_isHostel_77 0 rfl ?_
                refine x_iadd C dL_isHostel_79 ?_
                refine x_istore C [(4, .int (a25.1 + q3.1)), (7, .int q3.1), (0, .ref (B + oHB)), (1, .ref (sA ek)), (2, .ref aA), (3, .ref aH), (5, .int a15.2.1), (6, .int a25.2.1)] dL_isHostel_80 (by decide) rfl ?_
                refine x_iinc C (k := 7) [(6, .int (a25.2.1 + (1 : Int32))), (4, .int (a25.1 + q3.1)), (7, .int q3.1), (0, .ref (B + oHB)), (1, .ref (sA ek)), (2, .ref aA), (3, .ref aH), (5, .int a15.2.1)] dL_isHostel_82 rfl rfl (by decide) rfl ?_
                refine x_goto C (tgt := 25) dL_isHostel_85 (by decide) ?_
                cases h
                refine x_widen (cells2 := (((0 + 41) + (32 - (n15 + 1)) * 540) + (9 - n25) * 60)) (slots2 := (((0 + 1240) + (32 - (n15 + 1)) * 2781) + (9 - n25) * 309)) (by omega) (by omega) ?_
                refine x_sub [3, 4, 5, 6, 1, 7, 0] rfl ?_
                exact hA4 (a25.1 + q3.1, a25.2.1 + (1 : Int32), q3.2) rfl
              · rw [if_neg hc13] at h
                refine x_iconst C (v := 0) dL_isHostel_73 (by decide) ?_
                cases h
                refine x_drop _ ?_
                exact hB5 (.inr ((0 : Int32))) rfl _ _ _ _ dL_isHostel_74 (nar_Z (Or.inl rfl)) (by omega) (by omega)
            · rw [if_neg hc11] at h
              refine x_goto C (tgt := 82) dL_isHostel_53 (by decide) ?_
              refine x_iinc C (k := 6) [(6, .int (a25.2.1 + (1 : Int32))), (0, .ref (B + oHB)), (1, .ref (sA ek)), (2, .ref aA), (3, .ref aH), (4, .int a25.1), (5, .int a15.2.1)] dL_isHostel_82 rfl rfl (by decide) rfl ?_
              refine x_goto C (tgt := 25) dL_isHostel_85 (by decide) ?_
              cases h
              refine x_widen (cells2 := (((0 + 41) + (32 - (n15 + 1)) * 540) + (9 - n25) * 60)) (slots2 := (((0 + 1240) + (32 - (n15 + 1)) * 2781) + (9 - n25) * 309)) (by omega) (by omega) ?_
              refine x_sub [1, 2, 3, 4, 5, 6, 0] rfl ?_
              exact hA4 (a25.1, a25.2.1 + (1 : Int32), a25.2.2) rfl
      · rcases b25 with z25 | w25
        · rw [Sum.elim_inl] at h
          show X p l e R s m args below meth c 8 cy D B (((0 + 41) + (32 - (n15 + 1)) * 540) + 540) (((0 + 1240) + (32 - (n15 + 1)) * 2781) + 2781) Q 88 [(0, .ref (B + oHB)), (1, .ref (sA ek)), (2, .ref aA), (3, .ref aH), (4, .int z25.1), (5, .int a15.2.1)] [] σ (Y ++ hdL cy aH aR z25.2)
          refine x_iinc C (k := 5) [(5, .int (a15.2.1 + (1 : Int32))), (0, .ref (B + oHB)), (1, .ref (sA ek)), (2, .ref aA), (3, .ref aH), (4, .int z25.1)] dL_isHostel_88 rfl rfl (by decide) rfl ?_
          refine x_goto C (tgt := 15) dL_isHostel_91 (by decide) ?_
          cases h
          refine x_widen (cells2 := ((0 + 41) + (32 - n15) * 540)) (slots2 := ((0 + 1240) + (32 - n15) * 2781)) (by omega) (by omega) ?_
          refine x_sub [1, 2, 3, 4, 5, 0] rfl ?_
          exact hA1 (z25.1, a15.2.1 + (1 : Int32), z25.2) rfl
        · rw [Sum.elim_inr] at h
          show ∀ (cells9 slots9 pc9 : Nat) (lcs9 : List (Nat × Value)), decode cL_isHostel pc9 = .ok (.ireturn, 1) → narrow .boolean (.int w25) = .int w25 → cells9 ≤ 17449 → slots9 ≤ 91000 → X p l e R s m args below meth c 8 cy D B cells9 slots9 Q pc9 lcs9 [.int w25] σ Y
          cases h
          exact hB2 (.inr w25) rfl
  · rcases b15 with z15 | w15
    · rw [Sum.elim_inl] at h
      show X p l e R s m args below meth c 8 cy D B ((0 + 41) + 17280) ((0 + 1240) + 88992) Q 94 [(0, .ref (B + oHB)), (1, .ref (sA ek)), (2, .ref aA), (3, .ref aH), (4, .int z15.1)] [] σ (Y ++ hdL cy aH aR z15.2)
      refine x_aload_n C dL_isHostel_94 rfl 1 rfl ?_
      refine x_bipush C (v := 13) dL_isHostel_95 (by decide) ?_
      obtain ⟨q4, hk16, h⟩ := Option.bind_eq_some_iff.mp h
      refine x_callS C (As := [.ref (sA ek), .int (13 : Int32)]) (rest := []) (lw_g_mk tw_476 rfl) (okL_cell l cy D B ek xs L hxs hLs (13 : Int32) σ (Y ++ hdL cy aH aR z15.2) _ hk16) rfl rfl (by rw [hR9]; decide) (lw_g_mk tw_477 rfl) (lw_g_mk tw_0 rfl) (by decide) rfl (lw_g_mk tw_475 rfl) rfl (Nat.le_of_ble_eq_true rfl) dL_isHostel_97 ⟨by rw [hRc]; omega, by rw [hRs]; omega⟩ ?_
      refine x_bipush C (v := 30) dL_isHostel_100 (by decide) ?_
      obtain ⟨q5, hk17, h⟩ := Option.bind_eq_some_iff.mp h
      refine x_callS C (As := [.int q4, .int (30 : Int32)]) (rest := []) (lw_g_mk tw_479 rfl) (okL_part l cy D B ek q4 (30 : Int32) σ (Y ++ hdL cy aH aR z15.2) _ hk17) rfl rfl (by rw [hR9]; decide) (lw_g_mk tw_480 rfl) (lw_g_mk tw_0 rfl) (by decide) rfl (lw_g_mk tw_478 rfl) rfl (Nat.le_of_ble_eq_true rfl) dL_isHostel_102 ⟨by rw [hRc]; omega, by rw [hRs]; omega⟩ ?_
      refine x_istore C [(5, .int q5), (0, .ref (B + oHB)), (1, .ref (sA ek)), (2, .ref aA), (3, .ref aH), (4, .int z15.1)] dL_isHostel_105 (by decide) rfl ?_
      refine x_iconst C (v := 0) dL_isHostel_107 (by decide) ?_
      refine x_istore C [(6, .int (0 : Int32)), (5, .int q5), (0, .ref (B + oHB)), (1, .ref (sA ek)), (2, .ref aA), (3, .ref aH), (4, .int z15.1)] dL_isHostel_108 (by decide) rfl ?_
      refine x_iconst C (v := 0) dL_isHostel_110 (by decide) ?_
      refine x_istore C [(7, .int (0 : Int32)), (6, .int (0 : Int32)), (5, .int q5), (0, .ref (B + oHB)), (1, .ref (sA ek)), (2, .ref aA), (3, .ref aH), (4, .int z15.1)] dL_isHostel_111 (by decide) rfl ?_
      obtain ⟨b113, hk37, h⟩ := Option.bind_eq_some_iff.mp h
      refine x_sub [3, 4, 5, 6, 7, 2, 1, 0] rfl ?_
      refine x_widen (cells2 := (((0 + 41) + 17280) + (42 - 42) * 3)) (slots2 := (((0 + 1240) + 88992) + (42 - 42) * 18)) (by omega) (by omega) ?_
      refine loop_runN (N := 42) (step := stL_isHostel_113 xs L q5 σ z15) (P := fun (n113 : Nat) (a113 : Int32 × Int32) => X p l e R s m args below meth c 8 cy D B (((0 + 41) + 17280) + (42 - n113) * 3) (((0 + 1240) + 88992) + (42 - n113) * 18) Q 113 [(0, .ref (B + oHB)), (1, .ref (sA ek)), (2, .ref aA), (3, .ref aH), (4, .int z15.1), (5, .int q5), (6, .int a113.1), (7, .int a113.2)] [] σ (Y ++ hdL cy aH aR z15.2)) (K := fun (b113 : (Int32) ⊕ (Int32)) => Sum.elim (fun z113 => X p l e R s m args below meth c 8 cy D B (((0 + 41) + 17280) + 126) (((0 + 1240) + 88992) + 756) Q 209 [(0, .ref (B + oHB)), (1, .ref (sA ek)), (2, .ref aA), (4, .int z15.1), (5, .int q5), (6, .int z113)] [] σ (Y ++ hdL cy aH aR z15.2)) (fun w113 => ∀ (cells9 slots9 pc9 : Nat) (lcs9 : List (Nat × Value)), decode cL_isHostel pc9 = .ok (.ireturn, 1) → narrow .boolean (.int w113) = .int w113 → cells9 ≤ 17449 → slots9 ≤ 91000 → X p l e R s m args below meth c 8 cy D B cells9 slots9 Q pc9 lcs9 [.int w113] σ Y) b113) ?_ 42 ((0 : Int32), (0 : Int32)) b113 (Nat.le_refl _) hk37 ?_
      · intro n113 a113 r hn113 h hA18 hB19
        unfold stL_isHostel_113 at h
        refine x_iload C dL_isHostel_113 7 rfl ?_
        refine x_bipush C (v := 40) dL_isHostel_115 (by decide) ?_
        refine x_icmp_ge C (tgt := 209) dL_isHostel_117 (by decide) (fun hc20 => ?_) (fun hc20 => ?_)
        · rw [if_pos hc20] at h
          cases h
          refine x_widen (cells2 := (((0 + 41) + 17280) + 126)) (slots2 := (((0 + 1240) + 88992) + 756)) (by omega) (by omega) ?_
          refine x_sub [0, 1, 2, 4, 5, 6] rfl ?_
          exact hB19 (.inl a113.1) rfl
        · rw [if_neg hc20] at h
          refine x_iload C dL_isHostel_120 7 rfl ?_
          refine x_bipush C (v := 10) dL_isHostel_122 (by decide) ?_
          refine x_idiv C dL_isHostel_124 (by decide) ?_
          refine x_aload_n C dL_isHostel_125 rfl 1 rfl ?_
          obtain ⟨q6, hk21, h⟩ := Option.bind_eq_some_iff.mp h
          refine x_callS C (As := [.ref (sA ek)]) (rest := [.int (a113.2 / (10 : Int32))]) (lw_g_mk tw_761 rfl) (okL_roomsOf l cy D B ek xs L hxs hLs σ (Y ++ hdL cy aH aR z15.2) _ hk21) rfl rfl (by rw [hR9]; decide) (lw_g_mk tw_762 rfl) (lw_g_mk tw_0 rfl) (by decide) rfl (lw_g_mk tw_760 rfl) rfl (Nat.le_of_ble_eq_true rfl) dL_isHostel_126 ⟨by rw [hRc]; omega, by rw [hRs]; omega⟩ ?_
          refine x_icmp_ge C (tgt := 203) dL_isHostel_129 (by decide) (fun hc22 => ?_) (fun hc22 => ?_)
          · rw [if_pos hc22] at h
            refine x_iinc C (k := 7) [(7, .int (a113.2 + (1 : Int32))), (0, .ref (B + oHB)), (1, .ref (sA ek)), (2, .ref aA), (3, .ref aH), (4, .int z15.1), (5, .int q5), (6, .int a113.1)] dL_isHostel_203 rfl rfl (by decide) rfl ?_
            refine x_goto C (tgt := 113) dL_isHostel_206 (by decide) ?_
            cases h
            refine x_widen (cells2 := (((0 + 41) + 17280) + (42 - n113) * 3)) (slots2 := (((0 + 1240) + 88992) + (42 - n113) * 18)) (by omega) (by omega) ?_
            refine x_sub [1, 2, 3, 4, 5, 6, 7, 0] rfl ?_
            exact hA18 (a113.1, a113.2 + (1 : Int32)) rfl
          · rw [if_neg hc22] at h
            refine x_iload C dL_isHostel_132 7 rfl ?_
            refine x_bipush C (v := 10) dL_isHostel_134 (by decide) ?_
            refine x_irem C dL_isHostel_136 (by decide) ?_
            refine x_aload_n C dL_isHostel_137 rfl 1 rfl ?_
            refine x_iload C dL_isHostel_138 7 rfl ?_
            refine x_bipush C (v := 10) dL_isHostel_140 (by decide) ?_
            refine x_idiv C dL_isHostel_142 (by decide) ?_
            refine x_iconst C (v := 1) dL_isHostel_143 (by decide) ?_
            obtain ⟨q7, hk23, h⟩ := Option.bind_eq_some_iff.mp h
            refine x_callS C (As := [.ref (sA ek), .int (a113.2 / (10 : Int32)), .int (1 : Int32)]) (rest := [.int (a113.2 - a113.2 / (10 : Int32) * (10 : Int32))]) (lw_g_mk tw_764 rfl) (okL_room l cy D B ek xs L hxs hLs (a113.2 / (10 : Int32)) (1 : Int32) σ (Y ++ hdL cy aH aR z15.2) _ hk23) rfl rfl (by rw [hR9]; decide) (lw_g_mk tw_765 rfl) (lw_g_mk tw_0 rfl) (by decide) rfl (lw_g_mk tw_763 rfl) rfl (Nat.le_of_ble_eq_true rfl) dL_isHostel_144 ⟨by rw [hRc]; omega, by rw [hRs]; omega⟩ ?_
            refine x_icmp_lt C (tgt := 153) dL_isHostel_147 (by decide) (fun hc24 => ?_) (fun hc24 => ?_)
            · rw [if_pos hc24] at h
              refine x_aload_n C dL_isHostel_153 rfl 0 rfl ?_
              refine x_iload C dL_isHostel_154 7 rfl ?_
              refine x_bipush C (v := 10) dL_isHostel_156 (by decide) ?_
              refine x_idiv C dL_isHostel_158 (by decide) ?_
              refine x_iload C dL_isHostel_159 7 rfl ?_
              refine x_bipush C (v := 10) dL_isHostel_161 (by decide) ?_
              refine x_irem C dL_isHostel_163 (by decide) ?_
              refine x_iload C dL_isHostel_164 5 rfl ?_
              obtain ⟨q8, hk25, h⟩ := Option.bind_eq_some_iff.mp h
              refine x_callVX C (As := [.int (a113.2 / (10 : Int32)), .int (a113.2 - a113.2 / (10 : Int32) * (10 : Int32)), .int q5]) (rest := []) (cells2 := ((((0 + 41) + 17280) + (42 - (n113 + 1)) * 3) + 3)) (slots2 := ((((0 + 1240) + 88992) + (42 - (n113 + 1)) * 18) + 18)) (lw_g_mk tw_1112 rfl) (lw_g_mk tw_1113 rfl) (c_HB) (C1 := "HostelBeds") (T := TX5) (N := 12) (ci := 7) rfl (okX5_occupant l hlf cy D B ek (a113.2 / (10 : Int32)) (a113.2 - a113.2 / (10 : Int32) * (10 : Int32)) q5 σ (Y ++ hdL cy aH aR z15.2) _ hk25) rfl rfl (by rw [hR9]; decide) (lw_g_mk tw_1114 rfl) (lw_g_mk tw_1 rfl) (by decide) rfl (lw_g_mk tw_1111 rfl) rfl (Nat.le_of_ble_eq_true rfl) dL_isHostel_166 ⟨by rw [hRc]; omega, by rw [hRs]; omega⟩ rfl rfl (fun v26 hv27 => ?_) (fun k28 hv29 => ?_)
              · rcases q8 with x9 | e10
                · rw [Sum.elim_inl] at h
                  have hv27 : (Sum.inl (some (Value.int x9)) : Option Value ⊕ Nat) = .inl v26 := hv27
                  cases hv27
                  refine x_aload_n C dL_isHostel_169 rfl 3 rfl ?_
                  refine x_iload C dL_isHostel_170 7 rfl ?_
                  obtain ⟨hg31, h⟩ := gd_some h
                  refine x_aldR C _ (wl_ex hdl_H) hg31 (if_pos (inb_lt hg31)) dL_isHostel_172 ?_
                  refine x_iload C dL_isHostel_173 5 rfl ?_
                  obtain ⟨hg32, h⟩ := gd_some h
                  refine x_iald C _ (wl_ex (hdl_R (inb_lt hg31))) hg32 dL_isHostel_175 ?_
                  refine x_iconst C (v := 1) dL_isHostel_176 (by decide) ?_
                  refine x_isub C dL_isHostel_177 ?_
                  refine x_icmp_eq C (tgt := 183) dL_isHostel_178 (by decide) (fun hc33 => ?_) (fun hc33 => ?_)
                  · rw [if_pos hc33] at h
                    refine x_iload C dL_isHostel_183 6 rfl ?_
                    refine x_aload_n C dL_isHostel_185 rfl 3 rfl ?_
                    refine x_iload C dL_isHostel_186 7 rfl ?_
                    refine x_aldR C _ (wl_ex hdl_H) hg31 (if_pos (inb_lt hg31)) dL_isHostel_188 ?_
                    refine x_iload C dL_isHostel_189 5 rfl ?_
                    refine x_iald C _ (wl_ex (hdl_R (inb_lt hg31))) hg32 dL_isHostel_191 ?_
                    have hJ34 : ∀ (t11 : Int32) (r9 : (Int32 × Int32) ⊕ ((Int32) ⊕ (Int32))), jL_isHostel_200 a113 t11 = some r9 → (∀ a2, r9 = .inl a2 → (fun (n113 : Nat) (a113 : Int32 × Int32) => X p l e R s m args below meth c 8 cy D B (((0 + 41) + 17280) + (42 - n113) * 3) (((0 + 1240) + 88992) + (42 - n113) * 18) Q 113 [(0, .ref (B + oHB)), (1, .ref (sA ek)), (2, .ref aA), (3, .ref aH), (4, .int z15.1), (5, .int q5), (6, .int a113.1), (7, .int a113.2)] [] σ (Y ++ hdL cy aH aR z15.2)) n113 a2) → (∀ b2, r9 = .inr b2 → (fun (b113 : (Int32) ⊕ (Int32)) => Sum.elim (fun z113 => X p l e R s m args below meth c 8 cy D B (((0 + 41) + 17280) + 126) (((0 + 1240) + 88992) + 756) Q 209 [(0, .ref (B + oHB)), (1, .ref (sA ek)), (2, .ref aA), (4, .int z15.1), (5, .int q5), (6, .int z113)] [] σ (Y ++ hdL cy aH aR z15.2)) (fun w113 => ∀ (cells9 slots9 pc9 : Nat) (lcs9 : List (Nat × Value)), decode cL_isHostel pc9 = .ok (.ireturn, 1) → narrow .boolean (.int w113) = .int w113 → cells9 ≤ 17449 → slots9 ≤ 91000 → X p l e R s m args below meth c 8 cy D B cells9 slots9 Q pc9 lcs9 [.int w113] σ Y) b113) b2) → X p l e R s m args below meth c 8 cy D B ((((0 + 41) + 17280) + (42 - (n113 + 1)) * 3) + 3) ((((0 + 1240) + 88992) + (42 - (n113 + 1)) * 18) + 18) Q 200 [(0, .ref (B + oHB)), (1, .ref (sA ek)), (2, .ref aA), (3, .ref aH), (4, .int z15.1), (5, .int q5), (7, .int a113.2)] [.int t11, .int a113.1] σ (Y ++ hdL cy aH aR z15.2) := by
                      intro t11 r h hA18 hB19
                      unfold jL_isHostel_200 at h
                      refine x_iadd C dL_isHostel_200 ?_
                      refine x_istore C [(6, .int (a113.1 + t11)), (0, .ref (B + oHB)), (1, .ref (sA ek)), (2, .ref aA), (3, .ref aH), (4, .int z15.1), (5, .int q5), (7, .int a113.2)] dL_isHostel_201 (by decide) rfl ?_
                      refine x_iinc C (k := 7) [(7, .int (a113.2 + (1 : Int32))), (6, .int (a113.1 + t11)), (0, .ref (B + oHB)), (1, .ref (sA ek)), (2, .ref aA), (3, .ref aH), (4, .int z15.1), (5, .int q5)] dL_isHostel_203 rfl rfl (by decide) rfl ?_
                      refine x_goto C (tgt := 113) dL_isHostel_206 (by decide) ?_
                      cases h
                      refine x_widen (cells2 := (((0 + 41) + 17280) + (42 - n113) * 3)) (slots2 := (((0 + 1240) + 88992) + (42 - n113) * 18)) (by omega) (by omega) ?_
                      refine x_sub [2, 3, 4, 5, 6, 7, 1, 0] rfl ?_
                      exact hA18 (a113.1 + t11, a113.2 + (1 : Int32)) rfl
                    refine x_if_le C (tgt := 199) dL_isHostel_192 (by decide) (fun hc35 => ?_) (fun hc35 => ?_)
                    · rw [if_pos hc35] at h
                      refine x_iconst C (v := 0) dL_isHostel_199 (by decide) ?_
                      refine x_sub [0, 1, 2, 3, 4, 5, 7] rfl ?_
                      exact hJ34 (0 : Int32) _ h hA18 hB19
                    · rw [if_neg hc35] at h
                      refine x_iconst C (v := 1) dL_isHostel_195 (by decide) ?_
                      refine x_goto C (tgt := 200) dL_isHostel_196 (by decide) ?_
                      refine x_sub [0, 1, 2, 3, 4, 5, 7] rfl ?_
                      exact hJ34 (1 : Int32) _ h hA18 hB19
                  · rw [if_neg hc33] at h
                    refine x_iconst C (v := 0) dL_isHostel_181 (by decide) ?_
                    cases h
                    refine x_drop _ ?_
                    exact hB19 (.inr ((0 : Int32))) rfl _ _ _ _ dL_isHostel_182 (nar_Z (Or.inl rfl)) (by omega) (by omega)
                · cases hv27
              · rcases q8 with x9 | e10
                · cases hv29
                · rw [Sum.elim_inr] at h
                  cases h
            · rw [if_neg hc24] at h
              refine x_goto C (tgt := 203) dL_isHostel_150 (by decide) ?_
              refine x_iinc C (k := 7) [(7, .int (a113.2 + (1 : Int32))), (0, .ref (B + oHB)), (1, .ref (sA ek)), (2, .ref aA), (3, .ref aH), (4, .int z15.1), (5, .int q5), (6, .int a113.1)] dL_isHostel_203 rfl rfl (by decide) rfl ?_
              refine x_goto C (tgt := 113) dL_isHostel_206 (by decide) ?_
              cases h
              refine x_widen (cells2 := (((0 + 41) + 17280) + (42 - n113) * 3)) (slots2 := (((0 + 1240) + 88992) + (42 - n113) * 18)) (by omega) (by omega) ?_
              refine x_sub [1, 2, 3, 4, 5, 6, 7, 0] rfl ?_
              exact hA18 (a113.1, a113.2 + (1 : Int32)) rfl
      · rcases b113 with z113 | w113
        · rw [Sum.elim_inl] at h
          show X p l e R s m args below meth c 8 cy D B (((0 + 41) + 17280) + 126) (((0 + 1240) + 88992) + 756) Q 209 [(0, .ref (B + oHB)), (1, .ref (sA ek)), (2, .ref aA), (4, .int z15.1), (5, .int q5), (6, .int z113)] [] σ (Y ++ hdL cy aH aR z15.2)
          refine x_aload_n C dL_isHostel_209 rfl 0 rfl ?_
          obtain ⟨q12, hk38, h⟩ := Option.bind_eq_some_iff.mp h
          refine x_callV C (As := []) (rest := []) (lw_g_mk tw_472 rfl) (lw_g_mk tw_473 rfl) (c_HB) (C1 := "HostelBeds") (T := TX5) (N := 12) (ci := 7) rfl (okX5_net l cy D B ek σ (Y ++ hdL cy aH aR z15.2) _ hk38) rfl rfl (by rw [hR9]; decide) (lw_g_mk tw_474 rfl) (lw_g_mk tw_1 rfl) (by decide) rfl (lw_g_mk tw_471 rfl) rfl (Nat.le_of_ble_eq_true rfl) dL_isHostel_210 ⟨by rw [hRc]; omega, by rw [hRs]; omega⟩ ?_
          refine x_iload C dL_isHostel_213 3 rfl ?_
          have hJ39 : ∀ (r9 : Int32), jL_isHostel_249 = some r9 → (∀ (cells9 slots9 pc9 : Nat) (lcs9 : List (Nat × Value)), decode cL_isHostel pc9 = .ok (.ireturn, 1) → narrow .boolean (.int r9) = .int r9 → cells9 ≤ 17449 → slots9 ≤ 91000 → X p l e R s m args below meth c 8 cy D B cells9 slots9 Q pc9 lcs9 [.int r9] σ Y) → X p l e R s m args below meth c 8 cy D B ((((0 + 41) + 17280) + 126) + 2) ((((0 + 1240) + 88992) + 756) + 12) Q 249 [] [] σ (Y ++ hdL cy aH aR z15.2) := by
            intro res9 h hret
            unfold jL_isHostel_249 at h
            refine x_iconst C (v := 0) dL_isHostel_249 (by decide) ?_
            cases h
            refine x_drop _ ?_
            exact hret _ _ _ _ dL_isHostel_250 (nar_Z (Or.inl rfl)) (by omega) (by omega)
          refine x_icmp_ne C (tgt := 249) dL_isHostel_215 (by decide) (fun hc40 => ?_) (fun hc40 => ?_)
          · rw [if_pos hc40] at h
            refine x_widen (cells2 := ((((0 + 41) + 17280) + 126) + 2)) (slots2 := ((((0 + 1240) + 88992) + 756) + 12)) (by omega) (by omega) ?_
            refine x_sub [] rfl ?_
            exact hJ39 _ h hret
          · rw [if_neg hc40] at h
            refine x_aload_n C dL_isHostel_218 rfl 0 rfl ?_
            refine x_iload C dL_isHostel_219 4 rfl ?_
            obtain ⟨q13, hk41, h⟩ := Option.bind_eq_some_iff.mp h
            refine x_callVX C (As := [.int q5]) (rest := []) (cells2 := ((((0 + 41) + 17280) + 126) + 1)) (slots2 := ((((0 + 1240) + 88992) + 756) + 6)) (lw_g_mk tw_1131 rfl) (lw_g_mk tw_1132 rfl) (c_HB) (C1 := "HostelBeds") (T := TX5) (N := 12) (ci := 7) rfl (okX5_occupied l hlf cy D B ek q5 σ (Y ++ hdL cy aH aR z15.2) _ hk41) rfl rfl (by rw [hR9]; decide) (lw_g_mk tw_1133 rfl) (lw_g_mk tw_1 rfl) (by decide) rfl (lw_g_mk tw_1130 rfl) rfl (Nat.le_of_ble_eq_true rfl) dL_isHostel_221 ⟨by rw [hRc]; omega, by rw [hRs]; omega⟩ rfl rfl (fun v42 hv43 => ?_) (fun k44 hv45 => ?_)
            · rcases q13 with x14 | e15
              · rw [Sum.elim_inl] at h
                have hv43 : (Sum.inl (some (Value.int x14)) : Option Value ⊕ Nat) = .inl v42 := hv43
                cases hv43
                refine x_iload C dL_isHostel_224 5 rfl ?_
                refine x_icmp_ne C (tgt := 249) dL_isHostel_226 (by decide) (fun hc47 => ?_) (fun hc47 => ?_)
                · rw [if_pos hc47] at h
                  refine x_widen (cells2 := ((((0 + 41) + 17280) + 126) + 2)) (slots2 := ((((0 + 1240) + 88992) + 756) + 12)) (by omega) (by omega) ?_
                  refine x_sub [] rfl ?_
                  exact hJ39 _ h hret
                · rw [if_neg hc47] at h
                  refine x_aload_n C dL_isHostel_229 rfl 0 rfl ?_
                  refine x_iload C dL_isHostel_230 4 rfl ?_
                  obtain ⟨q16, hk48, h⟩ := Option.bind_eq_some_iff.mp h
                  refine x_callVX C (As := [.int q5]) (rest := []) (cells2 := (((((0 + 41) + 17280) + 126) + 1) + 1)) (slots2 := (((((0 + 1240) + 88992) + 756) + 6) + 6)) (lw_g_mk tw_1135 rfl) (lw_g_mk tw_1136 rfl) (c_HB) (C1 := "HostelBeds") (T := TX5) (N := 12) (ci := 7) rfl (okX5_booked l hlf cy D B ek q5 σ (Y ++ hdL cy aH aR z15.2) _ hk48) rfl rfl (by rw [hR9]; decide) (lw_g_mk tw_1137 rfl) (lw_g_mk tw_1 rfl) (by decide) rfl (lw_g_mk tw_1134 rfl) rfl (Nat.le_of_ble_eq_true rfl) dL_isHostel_232 ⟨by rw [hRc]; omega, by rw [hRs]; omega⟩ rfl rfl (fun v49 hv50 => ?_) (fun k51 hv52 => ?_)
                  · rcases q16 with x17 | e18
                    · rw [Sum.elim_inl] at h
                      have hv50 : (Sum.inl (some (Value.int x17)) : Option Value ⊕ Nat) = .inl v49 := hv50
                      cases hv50
                      refine x_aload_n C dL_isHostel_235 rfl 1 rfl ?_
                      refine x_aload_n C dL_isHostel_236 rfl 2 rfl ?_
                      refine x_iload C dL_isHostel_237 4 rfl ?_
                      obtain ⟨q19, hk54, h⟩ := Option.bind_eq_some_iff.mp h
                      refine x_callS C (As := [.ref (sA ek), .ref aA, .int q5]) (rest := [.int x17]) (lw_g_mk tw_1071 rfl) (okL_booked l cy D B ek xs L hxs hLs _ _ q5 ac σ (Y ++ hdL cy aH aR z15.2) (ap_some hA) _ hk54) rfl rfl (by rw [hR9]; decide) (lw_g_mk tw_1072 rfl) (lw_g_mk tw_0 rfl) (by decide) rfl (lw_g_mk tw_1070 rfl) rfl (Nat.le_of_ble_eq_true rfl) dL_isHostel_239 ⟨by rw [hRc]; omega, by rw [hRs]; omega⟩ ?_
                      refine x_icmp_ne C (tgt := 249) dL_isHostel_242 (by decide) (fun hc55 => ?_) (fun hc55 => ?_)
                      · rw [if_pos hc55] at h
                        refine x_widen (cells2 := ((((0 + 41) + 17280) + 126) + 2)) (slots2 := ((((0 + 1240) + 88992) + 756) + 12)) (by omega) (by omega) ?_
                        refine x_sub [] rfl ?_
                        exact hJ39 _ h hret
                      · rw [if_neg hc55] at h
                        refine x_iconst C (v := 1) dL_isHostel_245 (by decide) ?_
                        refine x_goto C (tgt := 250) dL_isHostel_246 (by decide) ?_
                        cases h
                        refine x_drop _ ?_
                        exact hret _ _ _ _ dL_isHostel_250 (nar_Z (Or.inr rfl)) (by omega) (by omega)
                    · cases hv50
                  · rcases q16 with x17 | e18
                    · cases hv52
                    · rw [Sum.elim_inr] at h
                      cases h
              · cases hv43
            · rcases q13 with x14 | e15
              · cases hv45
              · rw [Sum.elim_inr] at h
                cases h
        · rw [Sum.elim_inr] at h
          show ∀ (cells9 slots9 pc9 : Nat) (lcs9 : List (Nat × Value)), decode cL_isHostel pc9 = .ok (.ireturn, 1) → narrow .boolean (.int w113) = .int w113 → cells9 ≤ 17449 → slots9 ≤ 91000 → X p l e R s m args below meth c 8 cy D B cells9 slots9 Q pc9 lcs9 [.int w113] σ Y
          cases h
          exact hret
    · rw [Sum.elim_inr] at h
      show ∀ (cells9 slots9 pc9 : Nat) (lcs9 : List (Nat × Value)), decode cL_isHostel pc9 = .ok (.ireturn, 1) → narrow .boolean (.int w15) = .int w15 → cells9 ≤ 17449 → slots9 ≤ 91000 → X p l e R s m args below meth c 8 cy D B cells9 slots9 Q pc9 lcs9 [.int w15] σ Y
      cases h
      exact hret
def jL_areChances_114 (q3 : Int32) (a14 : Int32 × (Nat → UInt64)) (a66 : Int32 × (Nat → UInt64)) (t5 : UInt64) : Option ((Int32 × (Nat → UInt64)) ⊕ ((Nat → UInt64))) := (gd (n64 (FP.dmul t5 (FP.ddiv (FP.i2d q3) (4636737291354636288 : UInt64)))) (gd (n64 (FP.dadd (FP.dmul (a14.2 a66.1.toNatClampNeg) (FP.dsub FP.dconst1 (FP.ddiv (FP.i2d q3) (4636737291354636288 : UInt64)))) (FP.dmul t5 (FP.ddiv (FP.i2d q3) (4636737291354636288 : UInt64))))) (some (.inl (a66.1 + (1 : Int32), vf_upd a66.2 a66.1.toNatClampNeg (FP.dadd (FP.dmul (a14.2 a66.1.toNatClampNeg) (FP.dsub FP.dconst1 (FP.ddiv (FP.i2d q3) (4636737291354636288 : UInt64)))) (FP.dmul t5 (FP.ddiv (FP.i2d q3) (4636737291354636288 : UInt64)))))))))
def stL_areChances_66 (q3 : Int32) (a14 : Int32 × (Nat → UInt64)) (xs : (Nat → Int32)) (L : Nat) (a66 : Int32 × (Nat → UInt64)) : Option ((Int32 × (Nat → UInt64)) ⊕ ((Nat → UInt64))) := (if (120 : Int32) ≤ a66.1 then (some (.inr a66.2)) else (gd (inb a66.1 120) (gd (n64 (FP.dsub FP.dconst1 (FP.ddiv (FP.i2d q3) (4636737291354636288 : UInt64)))) (gd (n64 (FP.dmul (a14.2 a66.1.toNatClampNeg) (FP.dsub FP.dconst1 (FP.ddiv (FP.i2d q3) (4636737291354636288 : UInt64))))) ((fL_people xs L a14.1).bind fun q4 => (if q4 ≤ a66.1 then ((fL_people xs L a14.1).bind fun q6 => (gd (inb (a66.1 - q6) 120) (jL_areChances_114 q3 a14 a66 (a14.2 (a66.1 - q6).toNatClampNeg)))) else (jL_areChances_114 q3 a14 a66 FP.dconst0)))))))
def stL_areChances_14 (xs : (Nat → Int32)) (L : Nat) (ac : (Nat → Int32)) (p4 : Int32) (a14 : Int32 × (Nat → UInt64)) : Option ((Int32 × (Nat → UInt64)) ⊕ ((Nat → UInt64))) := ((fL_bookingsOf xs L).bind fun q1 => (if q1 ≤ a14.1 then (some (.inr a14.2)) else (gd (inb a14.1 8) (if (ac a14.1.toNatClampNeg) = 0 then (some (.inl (a14.1 + (1 : Int32), a14.2))) else ((fL_isIn xs L a14.1 p4).bind fun q2 => (if ¬ q2 = 0 then ((fL_booking xs L a14.1 (5 : Int32)).bind fun q3 => (gd (n64 (FP.ddiv (FP.i2d q3) (4636737291354636288 : UInt64))) ((loop (stL_areChances_66 q3 a14 xs L) 5000 ((0 : Int32), (fun _ => 0))).bind fun b66 => (some (.inl (a14.1 + (1 : Int32), b66)))))) else (some (.inl (a14.1 + (1 : Int32), a14.2)))))))))
def stL_areChances_149 (b14 : (Nat → UInt64)) (xs : (Nat → Int32)) (L : Nat) (a149 : UInt64 × UInt64 × Int32) : Option ((UInt64 × UInt64 × Int32) ⊕ (UInt64 × UInt64)) := (if (120 : Int32) ≤ a149.2.2 then (some (.inr (a149.1, a149.2.1))) else (gd (inb a149.2.2 120) (gd (n64 (FP.dadd a149.1 (b14 a149.2.2.toNatClampNeg))) ((fL_beds xs L).bind fun q8 => (gd (n64 (FP.dmul (FP.i2d (a149.2.2 - q8)) (b14 a149.2.2.toNatClampNeg))) (gd (n64 (FP.dadd a149.2.1 (FP.dmul (FP.i2d (a149.2.2 - q8)) (b14 a149.2.2.toNatClampNeg)))) (some (.inl (FP.dadd a149.1 (b14 a149.2.2.toNatClampNeg), FP.dadd a149.2.1 (FP.dmul (FP.i2d (a149.2.2 - q8)) (b14 a149.2.2.toNatClampNeg)), a149.2.2 + (1 : Int32))))))))))
def stL_areChances_194 (p4 : Int32) (b14 : (Nat → UInt64)) (a194 : Int32 × Mem) : Option ((Int32 × Mem) ⊕ ((Mem) ⊕ (Int32 × Mem))) := (if (40 : Int32) ≤ a194.1 then (some (.inr (.inl a194.2))) else ((fX5_chance p4 a194.1 a194.2).bind fun q9 => Sum.elim (fun x10 => (gd (inb a194.1 120) (if (Op.cmpValue (FP.dcmp x10 (b14 a194.1.toNatClampNeg)) .l) = 0 then (some (.inl (a194.1 + (1 : Int32), q9.2))) else (some (.inr (.inr ((0 : Int32), q9.2))))))) (fun e11 => none) q9.1))
def jL_areChances_275 (σ15 : Mem) : Option (Int32 × Mem) := (some ((0 : Int32), σ15))
def fL_areChances (xs : Nat → Int32) (L : Nat) (p4 : Int32) (σ : Mem) (ac : (Nat → Int32)) : Option (Int32 × Mem) := ((loop (stL_areChances_14 xs L ac p4) 9 ((0 : Int32), vf_upd (fun _ => 0) (0 : Int32).toNatClampNeg FP.dconst1)).bind fun b14 => ((fL_beds xs L).bind fun q7 => ((loop (stL_areChances_149 b14 xs L) 5000 (FP.dconst0, FP.dconst0, q7 + (1 : Int32))).bind fun b149 => ((loop (stL_areChances_194 p4 b14) 42 ((0 : Int32), σ)).bind fun b194 => Sum.elim (fun z194 => ((fX5_risk p4 z194).bind fun q12 => Sum.elim (fun x13 => (if ¬ (Op.cmpValue (FP.dcmp x13 b149.1) .l) = 0 then (jL_areChances_275 q12.2) else ((fX5_expectedWalks p4 q12.2).bind fun q16 => Sum.elim (fun x17 => (if ¬ (Op.cmpValue (FP.dcmp x17 b149.2) .l) = 0 then (jL_areChances_275 q16.2) else ((fX5_chance p4 (-1 : Int32) q16.2).bind fun q19 => Sum.elim (fun x20 => (if ¬ (Op.cmpValue (FP.dcmp x20 FP.dconst0) .l) = 0 then (jL_areChances_275 q19.2) else ((fX5_chance p4 (9999 : Int32) q19.2).bind fun q22 => Sum.elim (fun x23 => (if ¬ (Op.cmpValue (FP.dcmp x23 FP.dconst0) .l) = 0 then (jL_areChances_275 q22.2) else (some ((1 : Int32), q22.2)))) (fun e24 => none) q22.1))) (fun e21 => none) q19.1))) (fun e18 => none) q16.1))) (fun e14 => none) q12.1)) (fun w194 => (some w194)) b194))))
set_option maxHeartbeats 4000000 in
set_option maxRecDepth 100000 in
theorem okL_areChances (l : Launch) (hlf : l.stackTraces = false) (cy : Nat → ClassId) (D : va_G) (B : Nat) (ek : EK) (xs : Nat → Int32) (L : Nat) (hxs : xs = sX ek) (hLs : L = sL ek) (aA : Nat) (iA : Nat) (p4 : Int32) (ac : (Nat → Int32)) (σ : Mem) (Y : va_W) (hA : Y[iA]? = some (cAc cy aA ac)) (res : Int32 × Mem) (h : fL_areChances xs L p4 σ ac = some res) : CTE l cy D B ek yL_areChances cL_areChances 10 (some .boolean) ({ frames := 8, cells := 56, slots := 1476, locals := 164 } : Room) 56 1476 [.ref (B + oHB), .ref (sA ek), .ref aA, .int p4] σ Y (fun v9 σ9 Y9 => v9 = (some (.int res.1)) ∧ σ9 = res.2 ∧ Y9 = Y) := by
  refine met_XE (own := "HostelBedsLaw") (by decide) rfl (Nat.le_of_ble_eq_true rfl) ?_
  intro p e s m args below meth c C hrT hlk
  have hret : ∀ (cells9 slots9 pc9 : Nat) (lcs9 : List (Nat × Value)), decode cL_areChances pc9 = .ok (.ireturn, 1) → narrow .boolean (.int res.1) = .int res.1 → cells9 ≤ 56 → slots9 ≤ 1476 → X p l e ({ frames := 8, cells := 56, slots := 1476, locals := 164 } : Room) s m args below meth c 10 cy D B cells9 slots9 (MQ below (QE cy D B (fun v9 σ9 Y9 => v9 = (some (.int res.1)) ∧ σ9 = res.2 ∧ Y9 = Y)) args s 56 1476 (aB B)) pc9 lcs9 [.int res.1] res.2 Y := fun cells9 slots9 pc9 lcs9 hd hn h1 h2 => x_zretE C hrT hlk hn hd h1 h2 ⟨rfl, rfl, rfl⟩
  generalize (MQ below (QE cy D B (fun v9 σ9 Y9 => v9 = (some (.int res.1)) ∧ σ9 = res.2 ∧ Y9 = Y)) args s 56 1476 (aB B)) = Q at hret ⊢
  obtain ⟨R, hR9⟩ : ∃ R : Room, R = ({ frames := 8, cells := 56, slots := 1476, locals := 164 } : Room) := ⟨_, rfl⟩
  rw [← hR9] at hret ⊢
  have hRc : R.cells = 56 := by rw [hR9]
  have hRs : R.slots = 1476 := by rw [hR9]
  unfold fL_areChances at h
  show X p l e R s m args below meth c 10 cy D B 0 0 Q 0 [(0, .ref (B + oHB)), (1, .ref (sA ek)), (2, .ref aA), (3, .int p4)] [] σ Y
  refine x_bipush C (v := 120) dL_areChances_0 (by decide) ?_
  refine x_newD C (lw_g_mk tw_320 rfl) (z := 120) (by decide) (by decide) (by decide) (by rw [hRc]; omega) (by rw [hRs]; omega) dL_areChances_2 (fun aD => ?_)
  refine x_astore C [(4, .ref aD), (0, .ref (B + oHB)), (1, .ref (sA ek)), (2, .ref aA), (3, .int p4)] dL_areChances_4 (by decide) rfl ?_
  refine x_aload C dL_areChances_6 0 rfl ?_
  refine x_iconst C (v := 0) dL_areChances_8 (by decide) ?_
  refine x_dconst1 C dL_areChances_9 ?_
  refine x_dast C _ (wl_ex pu_0) (by decide : inb (0 : Int32) 120) dL_areChances_10 (wl_exs ps_0) ?_
  refine x_iconst C (v := 0) dL_areChances_11 (by decide) ?_
  refine x_istore C [(5, .int (0 : Int32)), (4, .ref aD), (0, .ref (B + oHB)), (1, .ref (sA ek)), (2, .ref aA), (3, .int p4)] dL_areChances_12 (by decide) rfl ?_
  obtain ⟨b14, hk25, h⟩ := Option.bind_eq_some_iff.mp h
  refine x_sub [2, 3, 4, 5, 1, 0] rfl ?_
  refine x_widen (cells2 := ((0 + 1) + (9 - 9) * 1)) (slots2 := ((0 + 120) + (9 - 9) * 120)) (by omega) (by omega) ?_
  refine loop_runN (N := 9) (step := stL_areChances_14 xs L ac p4) (P := fun (n14 : Nat) (a14 : Int32 × (Nat → UInt64)) => ∀ aD : Nat, X p l e R s m args below meth c 10 cy D B ((0 + 1) + (9 - n14) * 1) ((0 + 120) + (9 - n14) * 120) Q 14 [(0, .ref (B + oHB)), (1, .ref (sA ek)), (2, .ref aA), (3, .int p4), (4, .ref aD), (5, .int a14.1)] [] σ (Y ++ [cDb cy aD a14.2])) (K := fun (b14 : (Nat → UInt64)) => ∀ aD : Nat, X p l e R s m args below meth c 10 cy D B ((0 + 1) + 9) ((0 + 120) + 1080) Q 135 [(0, .ref (B + oHB)), (1, .ref (sA ek)), (3, .int p4), (4, .ref aD)] [] σ (Y ++ [cDb cy aD b14])) ?_ 9 ((0 : Int32), vf_upd (fun _ => 0) (0 : Int32).toNatClampNeg FP.dconst1) b14 (Nat.le_refl _) hk25 ?_ aD
  · intro n14 a14 r hn14 h hA1 hB2 aD
    unfold stL_areChances_14 at h
    refine x_iload C dL_areChances_14 5 rfl ?_
    refine x_aload_n C dL_areChances_16 rfl 1 rfl ?_
    obtain ⟨q1, hk3, h⟩ := Option.bind_eq_some_iff.mp h
    refine x_callS C (As := [.ref (sA ek)]) (rest := [.int a14.1]) (lw_g_mk tw_767 rfl) (okL_bookingsOf l cy D B ek xs L hxs hLs σ (Y ++ [cDb cy aD a14.2]) _ hk3) rfl rfl (by rw [hR9]; decide) (lw_g_mk tw_768 rfl) (lw_g_mk tw_0 rfl) (by decide) rfl (lw_g_mk tw_766 rfl) rfl (Nat.le_of_ble_eq_true rfl) dL_areChances_17 ⟨by rw [hRc]; omega, by rw [hRs]; omega⟩ ?_
    refine x_icmp_ge C (tgt := 135) dL_areChances_20 (by decide) (fun hc4 => ?_) (fun hc4 => ?_)
    · rw [if_pos hc4] at h
      cases h
      refine x_widen (cells2 := ((0 + 1) + 9)) (slots2 := ((0 + 120) + 1080)) (by omega) (by omega) ?_
      refine x_sub [0, 1, 3, 4] rfl ?_
      exact hB2 a14.2 rfl aD
    · rw [if_neg hc4] at h
      refine x_aload_n C dL_areChances_23 rfl 2 rfl ?_
      refine x_iload C dL_areChances_24 5 rfl ?_
      obtain ⟨hg5, h⟩ := gd_some h
      refine x_zald C _ (wl_ex (ap_some hA)) hg5 dL_areChances_26 ?_
      refine x_if_eq C (tgt := 129) dL_areChances_27 (by decide) (fun hc6 => ?_) (fun hc6 => ?_)
      · rw [if_pos hc6] at h
        refine x_iinc C (k := 5) [(5, .int (a14.1 + (1 : Int32))), (0, .ref (B + oHB)), (1, .ref (sA ek)), (2, .ref aA), (3, .int p4), (4, .ref aD)] dL_areChances_129 rfl rfl (by decide) rfl ?_
        refine x_goto C (tgt := 14) dL_areChances_132 (by decide) ?_
        cases h
        refine x_widen (cells2 := ((0 + 1) + (9 - n14) * 1)) (slots2 := ((0 + 120) + (9 - n14) * 120)) (by omega) (by omega) ?_
        refine x_sub [1, 2, 3, 4, 5, 0] rfl ?_
        exact hA1 (a14.1 + (1 : Int32), a14.2) rfl aD
      · rw [if_neg hc6] at h
        refine x_aload_n C dL_areChances_30 rfl 1 rfl ?_
        refine x_iload C dL_areChances_31 5 rfl ?_
        refine x_iload_n C dL_areChances_33 rfl 3 rfl ?_
        obtain ⟨q2, hk7, h⟩ := Option.bind_eq_some_iff.mp h
        refine x_callS C (As := [.ref (sA ek), .int a14.1, .int p4]) (rest := []) (lw_g_mk tw_1068 rfl) (okL_isIn l cy D B ek xs L hxs hLs a14.1 p4 σ (Y ++ [cDb cy aD a14.2]) _ hk7) rfl rfl (by rw [hR9]; decide) (lw_g_mk tw_1069 rfl) (lw_g_mk tw_0 rfl) (by decide) rfl (lw_g_mk tw_1067 rfl) rfl (Nat.le_of_ble_eq_true rfl) dL_areChances_34 ⟨by rw [hRc]; omega, by rw [hRs]; omega⟩ ?_
        refine x_if_ne C (tgt := 43) dL_areChances_37 (by decide) (fun hc8 => ?_) (fun hc8 => ?_)
        · rw [if_pos hc8] at h
          refine x_aload_n C dL_areChances_43 rfl 1 rfl ?_
          refine x_iload C dL_areChances_44 5 rfl ?_
          refine x_iconst C (v := 5) dL_areChances_46 (by decide) ?_
          obtain ⟨q3, hk9, h⟩ := Option.bind_eq_some_iff.mp h
          refine x_callS C (As := [.ref (sA ek), .int a14.1, .int (5 : Int32)]) (rest := []) (lw_g_mk tw_770 rfl) (okL_booking l cy D B ek xs L hxs hLs a14.1 (5 : Int32) σ (Y ++ [cDb cy aD a14.2]) _ hk9) rfl rfl (by rw [hR9]; decide) (lw_g_mk tw_771 rfl) (lw_g_mk tw_0 rfl) (by decide) rfl (lw_g_mk tw_769 rfl) rfl (Nat.le_of_ble_eq_true rfl) dL_areChances_47 ⟨by rw [hRc]; omega, by rw [hRs]; omega⟩ ?_
          refine x_i2d C dL_areChances_50 ?_
          refine x_ldc2d C (v := 4636737291354636288) (lw_g_mk tw_1141 rfl) dL_areChances_51 ?_
          obtain ⟨hg10, h⟩ := gd_some h
          refine x_ddiv C dL_areChances_54 hg10 ?_
          refine x_dstore C [(6, .double (FP.ddiv (FP.i2d q3) (4636737291354636288 : UInt64))), (0, .ref (B + oHB)), (1, .ref (sA ek)), (2, .ref aA), (3, .int p4), (4, .ref aD), (5, .int a14.1)] dL_areChances_55 (by decide) rfl ?_
          refine x_bipush C (v := 120) dL_areChances_57 (by decide) ?_
          refine x_newD C (lw_g_mk tw_320 rfl) (z := 120) (by decide) (by decide) (by decide) (by rw [hRc]; omega) (by rw [hRs]; omega) dL_areChances_59 (fun aT => ?_)
          rw [List.append_assoc]
          refine x_astore C [(8, .ref aT), (6, .double (FP.ddiv (FP.i2d q3) (4636737291354636288 : UInt64))), (0, .ref (B + oHB)), (1, .ref (sA ek)), (2, .ref aA), (3, .int p4), (4, .ref aD), (5, .int a14.1)] dL_areChances_61 (by decide) rfl ?_
          refine x_iconst C (v := 0) dL_areChances_63 (by decide) ?_
          refine x_istore C [(9, .int (0 : Int32)), (8, .ref aT), (6, .double (FP.ddiv (FP.i2d q3) (4636737291354636288 : UInt64))), (0, .ref (B + oHB)), (1, .ref (sA ek)), (2, .ref aA), (3, .int p4), (4, .ref aD), (5, .int a14.1)] dL_areChances_64 (by decide) rfl ?_
          obtain ⟨b66, hk24, h⟩ := Option.bind_eq_some_iff.mp h
          refine x_sub [3, 4, 5, 6, 7, 8, 2, 1, 0] rfl ?_
          refine loop_run (step := stL_areChances_66 q3 a14 xs L) (P := fun (a66 : Int32 × (Nat → UInt64)) => X p l e R s m args below meth c 10 cy D B (((0 + 1) + (9 - (n14 + 1)) * 1) + 1) (((0 + 120) + (9 - (n14 + 1)) * 120) + 120) Q 66 [(0, .ref (B + oHB)), (1, .ref (sA ek)), (2, .ref aA), (3, .int p4), (4, .ref aD), (5, .int a14.1), (6, .double (FP.ddiv (FP.i2d q3) (4636737291354636288 : UInt64))), (8, .ref aT), (9, .int a66.1)] [] σ (Y ++ [cDb cy aD a14.2, cDb cy aT a66.2])) (K := fun (b66 : (Nat → UInt64)) => X p l e R s m args below meth c 10 cy D B (((0 + 1) + (9 - (n14 + 1)) * 1) + 1) (((0 + 120) + (9 - (n14 + 1)) * 120) + 120) Q 125 [(0, .ref (B + oHB)), (1, .ref (sA ek)), (2, .ref aA), (3, .int p4), (5, .int a14.1), (8, .ref aT)] [] σ (Y ++ [cDb cy aD a14.2, cDb cy aT b66])) ?_ 5000 ((0 : Int32), (fun _ => 0)) b66 hk24 ?_
          · intro a66 r h hA11 hB12
            unfold stL_areChances_66 at h
            refine x_iload C dL_areChances_66 8 rfl ?_
            refine x_bipush C (v := 120) dL_areChances_68 (by decide) ?_
            refine x_icmp_ge C (tgt := 125) dL_areChances_70 (by decide) (fun hc13 => ?_) (fun hc13 => ?_)
            · rw [if_pos hc13] at h
              cases h
              refine x_sub [0, 1, 2, 3, 5, 7] rfl ?_
              exact hB12 a66.2 rfl
            · rw [if_neg hc13] at h
              refine x_aload C dL_areChances_73 7 rfl ?_
              refine x_iload C dL_areChances_75 8 rfl ?_
              refine x_aload C dL_areChances_77 4 rfl ?_
              refine x_iload C dL_areChances_79 8 rfl ?_
              obtain ⟨hg14, h⟩ := gd_some h
              refine x_dald C _ (wl_ex pu_0) hg14 dL_areChances_81 ?_
              refine x_dconst1 C dL_areChances_82 ?_
              refine x_dload C dL_areChances_83 6 rfl ?_
              obtain ⟨hg15, h⟩ := gd_some h
              refine x_dsub C dL_areChances_85 hg15 ?_
              obtain ⟨hg16, h⟩ := gd_some h
              refine x_dmul C dL_areChances_86 hg16 ?_
              refine x_iload C dL_areChances_87 8 rfl ?_
              refine x_aload_n C dL_areChances_89 rfl 1 rfl ?_
              refine x_iload C dL_areChances_90 5 rfl ?_
              obtain ⟨q4, hk17, h⟩ := Option.bind_eq_some_iff.mp h
              refine x_callS C (As := [.ref (sA ek), .int a14.1]) (rest := [.int a66.1, .double (FP.dmul (a14.2 a66.1.toNatClampNeg) (FP.dsub FP.dconst1 (FP.ddiv (FP.i2d q3) (4636737291354636288 : UInt64)))), .int a66.1, .ref aT]) (lw_g_mk tw_1059 rfl) (okL_people l cy D B ek xs L hxs hLs a14.1 σ (Y ++ [cDb cy aD a14.2, cDb cy aT a66.2]) _ hk17) rfl rfl (by rw [hR9]; decide) (lw_g_mk tw_1060 rfl) (lw_g_mk tw_0 rfl) (by decide) rfl (lw_g_mk tw_1058 rfl) rfl (Nat.le_of_ble_eq_true rfl) dL_areChances_92 ⟨by rw [hRc]; omega, by rw [hRs]; omega⟩ ?_
              have hJ20 : ∀ (t5 : UInt64) (r9 : (Int32 × (Nat → UInt64)) ⊕ ((Nat → UInt64))), jL_areChances_114 q3 a14 a66 t5 = some r9 → (∀ a2, r9 = .inl a2 → (fun (a66 : Int32 × (Nat → UInt64)) => X p l e R s m args below meth c 10 cy D B (((0 + 1) + (9 - (n14 + 1)) * 1) + 1) (((0 + 120) + (9 - (n14 + 1)) * 120) + 120) Q 66 [(0, .ref (B + oHB)), (1, .ref (sA ek)), (2, .ref aA), (3, .int p4), (4, .ref aD), (5, .int a14.1), (6, .double (FP.ddiv (FP.i2d q3) (4636737291354636288 : UInt64))), (8, .ref aT), (9, .int a66.1)] [] σ (Y ++ [cDb cy aD a14.2, cDb cy aT a66.2])) a2) → (∀ b2, r9 = .inr b2 → (fun (b66 : (Nat → UInt64)) => X p l e R s m args below meth c 10 cy D B (((0 + 1) + (9 - (n14 + 1)) * 1) + 1) (((0 + 120) + (9 - (n14 + 1)) * 120) + 120) Q 125 [(0, .ref (B + oHB)), (1, .ref (sA ek)), (2, .ref aA), (3, .int p4), (5, .int a14.1), (8, .ref aT)] [] σ (Y ++ [cDb cy aD a14.2, cDb cy aT b66])) b2) → X p l e R s m args below meth c 10 cy D B (((0 + 1) + (9 - (n14 + 1)) * 1) + 1) (((0 + 120) + (9 - (n14 + 1)) * 120) + 120) Q 114 [(0, .ref (B + oHB)), (1, .ref (sA ek)), (2, .ref aA), (3, .int p4), (4, .ref aD), (5, .int a14.1), (6, .double (FP.ddiv (FP.i2d q3) (4636737291354636288 : UInt64))), (8, .ref aT), (9, .int a66.1)] [.double t5, .double (FP.dmul (a14.2 a66.1.toNatClampNeg) (FP.dsub FP.dconst1 (FP.ddiv (FP.i2d q3) (4636737291354636288 : UInt64)))), .int a66.1, .ref aT] σ (Y ++ [cDb cy aD a14.2, cDb cy aT a66.2]) := by
                intro t5 r h hA11 hB12
                unfold jL_areChances_114 at h
                refine x_dload C dL_areChances_114 6 rfl ?_
                obtain ⟨hg18, h⟩ := gd_some h
                refine x_dmul C dL_areChances_116 hg18 ?_
                obtain ⟨hg19, h⟩ := gd_some h
                refine x_dadd C dL_areChances_117 hg19 ?_
                refine x_dast C _ (wl_ex pu_1) hg14 dL_areChances_118 (wl_exs ps_1) ?_
                refine x_iinc C (k := 8) [(9, .int (a66.1 + (1 : Int32))), (0, .ref (B + oHB)), (1, .ref (sA ek)), (2, .ref aA), (3, .int p4), (4, .ref aD), (5, .int a14.1), (6, .double (FP.ddiv (FP.i2d q3) (4636737291354636288 : UInt64))), (8, .ref aT)] dL_areChances_119 rfl rfl (by decide) rfl ?_
                refine x_goto C (tgt := 66) dL_areChances_122 (by decide) ?_
                cases h
                refine x_sub [1, 2, 3, 4, 5, 6, 7, 8, 0] rfl ?_
                exact hA11 (a66.1 + (1 : Int32), vf_upd a66.2 a66.1.toNatClampNeg (FP.dadd (FP.dmul (a14.2 a66.1.toNatClampNeg) (FP.dsub FP.dconst1 (FP.ddiv (FP.i2d q3) (4636737291354636288 : UInt64)))) (FP.dmul t5 (FP.ddiv (FP.i2d q3) (4636737291354636288 : UInt64))))) rfl
              refine x_icmp_ge C (tgt := 102) dL_areChances_95 (by decide) (fun hc21 => ?_) (fun hc21 => ?_)
              · rw [if_pos hc21] at h
                refine x_aload C dL_areChances_102 4 rfl ?_
                refine x_iload C dL_areChances_104 8 rfl ?_
                refine x_aload_n C dL_areChances_106 rfl 1 rfl ?_
                refine x_iload C dL_areChances_107 5 rfl ?_
                obtain ⟨q6, hk22, h⟩ := Option.bind_eq_some_iff.mp h
                refine x_callS C (As := [.ref (sA ek), .int a14.1]) (rest := [.int a66.1, .ref aD, .double (FP.dmul (a14.2 a66.1.toNatClampNeg) (FP.dsub FP.dconst1 (FP.ddiv (FP.i2d q3) (4636737291354636288 : UInt64)))), .int a66.1, .ref aT]) (lw_g_mk tw_1059 rfl) (okL_people l cy D B ek xs L hxs hLs a14.1 σ (Y ++ [cDb cy aD a14.2, cDb cy aT a66.2]) _ hk22) rfl rfl (by rw [hR9]; decide) (lw_g_mk tw_1060 rfl) (lw_g_mk tw_0 rfl) (by decide) rfl (lw_g_mk tw_1058 rfl) rfl (Nat.le_of_ble_eq_true rfl) dL_areChances_109 ⟨by rw [hRc]; omega, by rw [hRs]; omega⟩ ?_
                refine x_isub C dL_areChances_112 ?_
                obtain ⟨hg23, h⟩ := gd_some h
                refine x_dald C _ (wl_ex pu_0) hg23 dL_areChances_113 ?_
                exact hJ20 (a14.2 (a66.1 - q6).toNatClampNeg) _ h hA11 hB12
              · rw [if_neg hc21] at h
                refine x_dconst0 C dL_areChances_98 ?_
                refine x_goto C (tgt := 114) dL_areChances_99 (by decide) ?_
                exact hJ20 FP.dconst0 _ h hA11 hB12
          · show X p l e R s m args below meth c 10 cy D B (((0 + 1) + (9 - (n14 + 1)) * 1) + 1) (((0 + 120) + (9 - (n14 + 1)) * 120) + 120) Q 125 [(0, .ref (B + oHB)), (1, .ref (sA ek)), (2, .ref aA), (3, .int p4), (5, .int a14.1), (8, .ref aT)] [] σ (Y ++ [cDb cy aD a14.2, cDb cy aT b66])
            refine x_aload C dL_areChances_125 5 rfl ?_
            refine x_astore C [(4, .ref aT), (0, .ref (B + oHB)), (1, .ref (sA ek)), (2, .ref aA), (3, .int p4), (5, .int a14.1), (8, .ref aT)] dL_areChances_127 (by decide) rfl ?_
            refine x_iinc C (k := 5) [(5, .int (a14.1 + (1 : Int32))), (4, .ref aT), (0, .ref (B + oHB)), (1, .ref (sA ek)), (2, .ref aA), (3, .int p4), (8, .ref aT)] dL_areChances_129 rfl rfl (by decide) rfl ?_
            refine x_goto C (tgt := 14) dL_areChances_132 (by decide) ?_
            cases h
            refine x_widen (cells2 := ((0 + 1) + (9 - n14) * 1)) (slots2 := ((0 + 120) + (9 - n14) * 120)) (by omega) (by omega) ?_
            refine x_cut1 _ _ ?_
            refine x_sub [2, 3, 4, 5, 1, 0] rfl ?_
            exact hA1 (a14.1 + (1 : Int32), b66) rfl aT
        · rw [if_neg hc8] at h
          refine x_goto C (tgt := 129) dL_areChances_40 (by decide) ?_
          refine x_iinc C (k := 5) [(5, .int (a14.1 + (1 : Int32))), (0, .ref (B + oHB)), (1, .ref (sA ek)), (2, .ref aA), (3, .int p4), (4, .ref aD)] dL_areChances_129 rfl rfl (by decide) rfl ?_
          refine x_goto C (tgt := 14) dL_areChances_132 (by decide) ?_
          cases h
          refine x_widen (cells2 := ((0 + 1) + (9 - n14) * 1)) (slots2 := ((0 + 120) + (9 - n14) * 120)) (by omega) (by omega) ?_
          refine x_sub [1, 2, 3, 4, 5, 0] rfl ?_
          exact hA1 (a14.1 + (1 : Int32), a14.2) rfl aD
  · show ∀ aD : Nat, X p l e R s m args below meth c 10 cy D B ((0 + 1) + 9) ((0 + 120) + 1080) Q 135 [(0, .ref (B + oHB)), (1, .ref (sA ek)), (3, .int p4), (4, .ref aD)] [] σ (Y ++ [cDb cy aD b14])
    intro aD
    refine x_dconst0 C dL_areChances_135 ?_
    refine x_dstore C [(5, .double FP.dconst0), (0, .ref (B + oHB)), (1, .ref (sA ek)), (3, .int p4), (4, .ref aD)] dL_areChances_136 (by decide) rfl ?_
    refine x_dconst0 C dL_areChances_138 ?_
    refine x_dstore C [(7, .double FP.dconst0), (5, .double FP.dconst0), (0, .ref (B + oHB)), (1, .ref (sA ek)), (3, .int p4), (4, .ref aD)] dL_areChances_139 (by decide) rfl ?_
    refine x_aload_n C dL_areChances_141 rfl 3 rfl ?_
    obtain ⟨q7, hk26, h⟩ := Option.bind_eq_some_iff.mp h
    refine x_callS C (As := [.ref (sA ek)]) (rest := []) (lw_g_mk tw_1062 rfl) (okL_beds l cy D B ek xs L hxs hLs σ (Y ++ [cDb cy aD b14]) _ hk26) rfl rfl (by rw [hR9]; decide) (lw_g_mk tw_1063 rfl) (lw_g_mk tw_0 rfl) (by decide) rfl (lw_g_mk tw_1061 rfl) rfl (Nat.le_of_ble_eq_true rfl) dL_areChances_142 ⟨by rw [hRc]; omega, by rw [hRs]; omega⟩ ?_
    refine x_iconst C (v := 1) dL_areChances_145 (by decide) ?_
    refine x_iadd C dL_areChances_146 ?_
    refine x_istore C [(9, .int (q7 + (1 : Int32))), (7, .double FP.dconst0), (5, .double FP.dconst0), (0, .ref (B + oHB)), (1, .ref (sA ek)), (3, .int p4), (4, .ref aD)] dL_areChances_147 (by decide) rfl ?_
    obtain ⟨b149, hk35, h⟩ := Option.bind_eq_some_iff.mp h
    refine x_sub [3, 4, 5, 6, 2, 1, 0] rfl ?_
    refine loop_run (step := stL_areChances_149 b14 xs L) (P := fun (a149 : UInt64 × UInt64 × Int32) => X p l e R s m args below meth c 10 cy D B ((0 + 1) + 9) ((0 + 120) + 1080) Q 149 [(0, .ref (B + oHB)), (1, .ref (sA ek)), (3, .int p4), (4, .ref aD), (5, .double a149.1), (7, .double a149.2.1), (9, .int a149.2.2)] [] σ (Y ++ [cDb cy aD b14])) (K := fun (b149 : UInt64 × UInt64) => X p l e R s m args below meth c 10 cy D B ((0 + 1) + 9) ((0 + 120) + 1080) Q 191 [(0, .ref (B + oHB)), (3, .int p4), (4, .ref aD), (5, .double b149.1), (7, .double b149.2)] [] σ (Y ++ [cDb cy aD b14])) ?_ 5000 (FP.dconst0, FP.dconst0, q7 + (1 : Int32)) b149 hk35 ?_
    · intro a149 r h hA27 hB28
      unfold stL_areChances_149 at h
      refine x_iload C dL_areChances_149 6 rfl ?_
      refine x_bipush C (v := 120) dL_areChances_151 (by decide) ?_
      refine x_icmp_ge C (tgt := 191) dL_areChances_153 (by decide) (fun hc29 => ?_) (fun hc29 => ?_)
      · rw [if_pos hc29] at h
        cases h
        refine x_sub [0, 2, 3, 4, 5] rfl ?_
        exact hB28 (a149.1, a149.2.1) rfl
      · rw [if_neg hc29] at h
        refine x_dload C dL_areChances_156 4 rfl ?_
        refine x_aload C dL_areChances_158 3 rfl ?_
        refine x_iload C dL_areChances_160 6 rfl ?_
        obtain ⟨hg30, h⟩ := gd_some h
        refine x_dald C _ (wl_ex pu_0) hg30 dL_areChances_162 ?_
        obtain ⟨hg31, h⟩ := gd_some h
        refine x_dadd C dL_areChances_163 hg31 ?_
        refine x_dstore C [(5, .double (FP.dadd a149.1 (b14 a149.2.2.toNatClampNeg))), (0, .ref (B + oHB)), (1, .ref (sA ek)), (3, .int p4), (4, .ref aD), (7, .double a149.2.1), (9, .int a149.2.2)] dL_areChances_164 (by decide) rfl ?_
        refine x_dload C dL_areChances_166 5 rfl ?_
        refine x_iload C dL_areChances_168 6 rfl ?_
        refine x_aload_n C dL_areChances_170 rfl 2 rfl ?_
        obtain ⟨q8, hk32, h⟩ := Option.bind_eq_some_iff.mp h
        refine x_callS C (As := [.ref (sA ek)]) (rest := [.int a149.2.2, .double a149.2.1]) (lw_g_mk tw_1062 rfl) (okL_beds l cy D B ek xs L hxs hLs σ (Y ++ [cDb cy aD b14]) _ hk32) rfl rfl (by rw [hR9]; decide) (lw_g_mk tw_1063 rfl) (lw_g_mk tw_0 rfl) (by decide) rfl (lw_g_mk tw_1061 rfl) rfl (Nat.le_of_ble_eq_true rfl) dL_areChances_171 ⟨by rw [hRc]; omega, by rw [hRs]; omega⟩ ?_
        refine x_isub C dL_areChances_174 ?_
        refine x_i2d C dL_areChances_175 ?_
        refine x_aload C dL_areChances_176 4 rfl ?_
        refine x_iload C dL_areChances_178 6 rfl ?_
        refine x_dald C _ (wl_ex pu_0) hg30 dL_areChances_180 ?_
        obtain ⟨hg33, h⟩ := gd_some h
        refine x_dmul C dL_areChances_181 hg33 ?_
        obtain ⟨hg34, h⟩ := gd_some h
        refine x_dadd C dL_areChances_182 hg34 ?_
        refine x_dstore C [(7, .double (FP.dadd a149.2.1 (FP.dmul (FP.i2d (a149.2.2 - q8)) (b14 a149.2.2.toNatClampNeg)))), (5, .double (FP.dadd a149.1 (b14 a149.2.2.toNatClampNeg))), (0, .ref (B + oHB)), (1, .ref (sA ek)), (3, .int p4), (4, .ref aD), (9, .int a149.2.2)] dL_areChances_183 (by decide) rfl ?_
        refine x_iinc C (k := 6) [(9, .int (a149.2.2 + (1 : Int32))), (7, .double (FP.dadd a149.2.1 (FP.dmul (FP.i2d (a149.2.2 - q8)) (b14 a149.2.2.toNatClampNeg)))), (5, .double (FP.dadd a149.1 (b14 a149.2.2.toNatClampNeg))), (0, .ref (B + oHB)), (1, .ref (sA ek)), (3, .int p4), (4, .ref aD)] dL_areChances_185 rfl rfl (by decide) rfl ?_
        refine x_goto C (tgt := 149) dL_areChances_188 (by decide) ?_
        cases h
        refine x_sub [3, 4, 5, 6, 2, 1, 0] rfl ?_
        exact hA27 (FP.dadd a149.1 (b14 a149.2.2.toNatClampNeg), FP.dadd a149.2.1 (FP.dmul (FP.i2d (a149.2.2 - q8)) (b14 a149.2.2.toNatClampNeg)), a149.2.2 + (1 : Int32)) rfl
    · show X p l e R s m args below meth c 10 cy D B ((0 + 1) + 9) ((0 + 120) + 1080) Q 191 [(0, .ref (B + oHB)), (3, .int p4), (4, .ref aD), (5, .double b149.1), (7, .double b149.2)] [] σ (Y ++ [cDb cy aD b14])
      refine x_iconst C (v := 0) dL_areChances_191 (by decide) ?_
      refine x_istore C [(9, .int (0 : Int32)), (0, .ref (B + oHB)), (3, .int p4), (4, .ref aD), (5, .double b149.1), (7, .double b149.2)] dL_areChances_192 (by decide) rfl ?_
      obtain ⟨b194, hk48, h⟩ := Option.bind_eq_some_iff.mp h
      refine x_sub [1, 2, 3, 4, 5, 0] rfl ?_
      refine x_widen (cells2 := (((0 + 1) + 9) + (42 - 42) * 1)) (slots2 := (((0 + 120) + 1080) + (42 - 42) * 6)) (by omega) (by omega) ?_
      refine loop_runN (N := 42) (step := stL_areChances_194 p4 b14) (P := fun (n194 : Nat) (a194 : Int32 × Mem) => X p l e R s m args below meth c 10 cy D B (((0 + 1) + 9) + (42 - n194) * 1) (((0 + 120) + 1080) + (42 - n194) * 6) Q 194 [(0, .ref (B + oHB)), (3, .int p4), (4, .ref aD), (5, .double b149.1), (7, .double b149.2), (9, .int a194.1)] [] a194.2 (Y ++ [cDb cy aD b14])) (K := fun (b194 : (Mem) ⊕ (Int32 × Mem)) => Sum.elim (fun z194 => X p l e R s m args below meth c 10 cy D B (((0 + 1) + 9) + 42) (((0 + 120) + 1080) + 252) Q 225 [(0, .ref (B + oHB)), (3, .int p4), (5, .double b149.1), (7, .double b149.2)] [] z194 (Y ++ [cDb cy aD b14])) (fun w194 => ∀ (cells9 slots9 pc9 : Nat) (lcs9 : List (Nat × Value)), decode cL_areChances pc9 = .ok (.ireturn, 1) → narrow .boolean (.int w194.1) = .int w194.1 → cells9 ≤ 56 → slots9 ≤ 1476 → X p l e R s m args below meth c 10 cy D B cells9 slots9 Q pc9 lcs9 [.int w194.1] w194.2 Y) b194) ?_ 42 ((0 : Int32), σ) b194 (Nat.le_refl _) hk48 ?_
      · intro n194 a194 r hn194 h hA36 hB37
        unfold stL_areChances_194 at h
        refine x_iload C dL_areChances_194 5 rfl ?_
        refine x_bipush C (v := 40) dL_areChances_196 (by decide) ?_
        refine x_icmp_ge C (tgt := 225) dL_areChances_198 (by decide) (fun hc38 => ?_) (fun hc38 => ?_)
        · rw [if_pos hc38] at h
          cases h
          refine x_widen (cells2 := (((0 + 1) + 9) + 42)) (slots2 := (((0 + 120) + 1080) + 252)) (by omega) (by omega) ?_
          refine x_sub [0, 1, 3, 4] rfl ?_
          exact hB37 (.inl a194.2) rfl
        · rw [if_neg hc38] at h
          refine x_aload_n C dL_areChances_201 rfl 0 rfl ?_
          refine x_iload_n C dL_areChances_202 rfl 1 rfl ?_
          refine x_iload C dL_areChances_203 5 rfl ?_
          obtain ⟨q9, hk39, h⟩ := Option.bind_eq_some_iff.mp h
          refine x_callVX C (As := [.int p4, .int a194.1]) (rest := []) (cells2 := ((((0 + 1) + 9) + (42 - (n194 + 1)) * 1) + 1)) (slots2 := ((((0 + 120) + 1080) + (42 - (n194 + 1)) * 6) + 6)) (lw_g_mk tw_1143 rfl) (lw_g_mk tw_1144 rfl) (c_HB) (C1 := "HostelBeds") (T := TX5) (N := 12) (ci := 7) rfl (okX5_chance l hlf cy D B ek p4 a194.1 a194.2 (Y ++ [cDb cy aD b14]) _ hk39) rfl rfl (by rw [hR9]; decide) (lw_g_mk tw_1145 rfl) (lw_g_mk tw_1 rfl) (by decide) rfl (lw_g_mk tw_1142 rfl) rfl (Nat.le_of_ble_eq_true rfl) dL_areChances_205 ⟨by rw [hRc]; omega, by rw [hRs]; omega⟩ rfl rfl (fun v40 hv41 => ?_) (fun k42 hv43 => ?_)
          · rcases hq44 : q9.1 with x10 | e11
            · rw [hq44, Sum.elim_inl] at h
              rw [hq44] at hv41
              have hv41 : (Sum.inl (some (Value.double x10)) : Option Value ⊕ Nat) = .inl v40 := hv41
              cases hv41
              refine x_aload C dL_areChances_208 2 rfl ?_
              refine x_iload C dL_areChances_210 5 rfl ?_
              obtain ⟨hg45, h⟩ := gd_some h
              refine x_dald C _ (wl_ex pu_0) hg45 dL_areChances_212 ?_
              refine x_dcmp C dL_areChances_213 ?_
              refine x_if_eq C (tgt := 219) dL_areChances_214 (by decide) (fun hc46 => ?_) (fun hc46 => ?_)
              · rw [if_pos hc46] at h
                refine x_iinc C (k := 5) [(9, .int (a194.1 + (1 : Int32))), (0, .ref (B + oHB)), (3, .int p4), (4, .ref aD), (5, .double b149.1), (7, .double b149.2)] dL_areChances_219 rfl rfl (by decide) rfl ?_
                refine x_goto C (tgt := 194) dL_areChances_222 (by decide) ?_
                cases h
                refine x_widen (cells2 := (((0 + 1) + 9) + (42 - n194) * 1)) (slots2 := (((0 + 120) + 1080) + (42 - n194) * 6)) (by omega) (by omega) ?_
                refine x_sub [1, 2, 3, 4, 5, 0] rfl ?_
                exact hA36 (a194.1 + (1 : Int32), q9.2) rfl
              · rw [if_neg hc46] at h
                refine x_iconst C (v := 0) dL_areChances_217 (by decide) ?_
                cases h
                refine x_drop _ ?_
                exact hB37 (.inr ((0 : Int32), q9.2)) rfl _ _ _ _ dL_areChances_218 (nar_Z (Or.inl rfl)) (by omega) (by omega)
            · rw [hq44] at hv41; cases hv41
          · rcases hq47 : q9.1 with x10 | e11
            · rw [hq47] at hv43; cases hv43
            · rw [hq47, Sum.elim_inr] at h
              cases h
      · rcases b194 with z194 | w194
        · rw [Sum.elim_inl] at h
          show X p l e R s m args below meth c 10 cy D B (((0 + 1) + 9) + 42) (((0 + 120) + 1080) + 252) Q 225 [(0, .ref (B + oHB)), (3, .int p4), (5, .double b149.1), (7, .double b149.2)] [] z194 (Y ++ [cDb cy aD b14])
          refine x_aload_n C dL_areChances_225 rfl 0 rfl ?_
          refine x_iload_n C dL_areChances_226 rfl 1 rfl ?_
          obtain ⟨q12, hk49, h⟩ := Option.bind_eq_some_iff.mp h
          refine x_callVX C (As := [.int p4]) (rest := []) (cells2 := ((((0 + 1) + 9) + 42) + 1)) (slots2 := ((((0 + 120) + 1080) + 252) + 6)) (lw_g_mk tw_1156 rfl) (lw_g_mk tw_1157 rfl) (c_HB) (C1 := "HostelBeds") (T := TX5) (N := 12) (ci := 7) rfl (okX5_risk l hlf cy D B ek p4 z194 (Y ++ [cDb cy aD b14]) _ hk49) rfl rfl (by rw [hR9]; decide) (lw_g_mk tw_1158 rfl) (lw_g_mk tw_1 rfl) (by decide) rfl (lw_g_mk tw_1155 rfl) rfl (Nat.le_of_ble_eq_true rfl) dL_areChances_227 ⟨by rw [hRc]; omega, by rw [hRs]; omega⟩ rfl rfl (fun v50 hv51 => ?_) (fun k52 hv53 => ?_)
          · rcases hq54 : q12.1 with x13 | e14
            · rw [hq54, Sum.elim_inl] at h
              rw [hq54] at hv51
              have hv51 : (Sum.inl (some (Value.double x13)) : Option Value ⊕ Nat) = .inl v50 := hv51
              cases hv51
              refine x_dload C dL_areChances_230 2 rfl ?_
              refine x_dcmp C dL_areChances_232 ?_
              have hJ55 : ∀ (σ15 : Mem) (r9 : Int32 × Mem), jL_areChances_275 σ15 = some r9 → (∀ (cells9 slots9 pc9 : Nat) (lcs9 : List (Nat × Value)), decode cL_areChances pc9 = .ok (.ireturn, 1) → narrow .boolean (.int r9.1) = .int r9.1 → cells9 ≤ 56 → slots9 ≤ 1476 → X p l e R s m args below meth c 10 cy D B cells9 slots9 Q pc9 lcs9 [.int r9.1] r9.2 Y) → X p l e R s m args below meth c 10 cy D B (((((0 + 1) + 9) + 42) + 1) + 3) (((((0 + 120) + 1080) + 252) + 6) + 18) Q 275 [] [] σ15 (Y ++ [cDb cy aD b14]) := by
                intro σ15 res9 h hret
                unfold jL_areChances_275 at h
                refine x_iconst C (v := 0) dL_areChances_275 (by decide) ?_
                cases h
                refine x_drop _ ?_
                exact hret _ _ _ _ dL_areChances_276 (nar_Z (Or.inl rfl)) (by omega) (by omega)
              refine x_if_ne C (tgt := 275) dL_areChances_233 (by decide) (fun hc56 => ?_) (fun hc56 => ?_)
              · rw [if_pos hc56] at h
                refine x_widen (cells2 := (((((0 + 1) + 9) + 42) + 1) + 3)) (slots2 := (((((0 + 120) + 1080) + 252) + 6) + 18)) (by omega) (by omega) ?_
                refine x_sub [] rfl ?_
                exact hJ55 q12.2 _ h hret
              · rw [if_neg hc56] at h
                refine x_aload_n C dL_areChances_236 rfl 0 rfl ?_
                refine x_iload_n C dL_areChances_237 rfl 1 rfl ?_
                obtain ⟨q16, hk57, h⟩ := Option.bind_eq_some_iff.mp h
                refine x_callVX C (As := [.int p4]) (rest := []) (cells2 := (((((0 + 1) + 9) + 42) + 1) + 1)) (slots2 := (((((0 + 120) + 1080) + 252) + 6) + 6)) (lw_g_mk tw_1160 rfl) (lw_g_mk tw_1161 rfl) (c_HB) (C1 := "HostelBeds") (T := TX5) (N := 12) (ci := 7) rfl (okX5_expectedWalks l hlf cy D B ek p4 q12.2 (Y ++ [cDb cy aD b14]) _ hk57) rfl rfl (by rw [hR9]; decide) (lw_g_mk tw_1162 rfl) (lw_g_mk tw_1 rfl) (by decide) rfl (lw_g_mk tw_1159 rfl) rfl (Nat.le_of_ble_eq_true rfl) dL_areChances_238 ⟨by rw [hRc]; omega, by rw [hRs]; omega⟩ rfl rfl (fun v58 hv59 => ?_) (fun k60 hv61 => ?_)
                · rcases hq62 : q16.1 with x17 | e18
                  · rw [hq62, Sum.elim_inl] at h
                    rw [hq62] at hv59
                    have hv59 : (Sum.inl (some (Value.double x17)) : Option Value ⊕ Nat) = .inl v58 := hv59
                    cases hv59
                    refine x_dload C dL_areChances_241 3 rfl ?_
                    refine x_dcmp C dL_areChances_243 ?_
                    refine x_if_ne C (tgt := 275) dL_areChances_244 (by decide) (fun hc63 => ?_) (fun hc63 => ?_)
                    · rw [if_pos hc63] at h
                      refine x_widen (cells2 := (((((0 + 1) + 9) + 42) + 1) + 3)) (slots2 := (((((0 + 120) + 1080) + 252) + 6) + 18)) (by omega) (by omega) ?_
                      refine x_sub [] rfl ?_
                      exact hJ55 q16.2 _ h hret
                    · rw [if_neg hc63] at h
                      refine x_aload_n C dL_areChances_247 rfl 0 rfl ?_
                      refine x_iload_n C dL_areChances_248 rfl 1 rfl ?_
                      refine x_iconst C (v := -1) dL_areChances_249 (by decide) ?_
                      obtain ⟨q19, hk64, h⟩ := Option.bind_eq_some_iff.mp h
                      refine x_callVX C (As := [.int p4, .int (-1 : Int32)]) (rest := []) (cells2 := ((((((0 + 1) + 9) + 42) + 1) + 1) + 1)) (slots2 := ((((((0 + 120) + 1080) + 252) + 6) + 6) + 6)) (lw_g_mk tw_1143 rfl) (lw_g_mk tw_1144 rfl) (c_HB) (C1 := "HostelBeds") (T := TX5) (N := 12) (ci := 7) rfl (okX5_chance l hlf cy D B ek p4 (-1 : Int32) q16.2 (Y ++ [cDb cy aD b14]) _ hk64) rfl rfl (by rw [hR9]; decide) (lw_g_mk tw_1145 rfl) (lw_g_mk tw_1 rfl) (by decide) rfl (lw_g_mk tw_1142 rfl) rfl (Nat.le_of_ble_eq_true rfl) dL_areChances_250 ⟨by rw [hRc]; omega, by rw [hRs]; omega⟩ rfl rfl (fun v65 hv66 => ?_) (fun k67 hv68 => ?_)
                      · rcases hq69 : q19.1 with x20 | e21
                        · rw [hq69, Sum.elim_inl] at h
                          rw [hq69] at hv66
                          have hv66 : (Sum.inl (some (Value.double x20)) : Option Value ⊕ Nat) = .inl v65 := hv66
                          cases hv66
                          refine x_dconst0 C dL_areChances_253 ?_
                          refine x_dcmp C dL_areChances_254 ?_
                          refine x_if_ne C (tgt := 275) dL_areChances_255 (by decide) (fun hc70 => ?_) (fun hc70 => ?_)
                          · rw [if_pos hc70] at h
                            refine x_widen (cells2 := (((((0 + 1) + 9) + 42) + 1) + 3)) (slots2 := (((((0 + 120) + 1080) + 252) + 6) + 18)) (by omega) (by omega) ?_
                            refine x_sub [] rfl ?_
                            exact hJ55 q19.2 _ h hret
                          · rw [if_neg hc70] at h
                            refine x_aload_n C dL_areChances_258 rfl 0 rfl ?_
                            refine x_iload_n C dL_areChances_259 rfl 1 rfl ?_
                            refine x_sipush C (v := 9999) dL_areChances_260 (by decide) ?_
                            obtain ⟨q22, hk71, h⟩ := Option.bind_eq_some_iff.mp h
                            refine x_callVX C (As := [.int p4, .int (9999 : Int32)]) (rest := []) (cells2 := (((((((0 + 1) + 9) + 42) + 1) + 1) + 1) + 1)) (slots2 := (((((((0 + 120) + 1080) + 252) + 6) + 6) + 6) + 6)) (lw_g_mk tw_1143 rfl) (lw_g_mk tw_1144 rfl) (c_HB) (C1 := "HostelBeds") (T := TX5) (N := 12) (ci := 7) rfl (okX5_chance l hlf cy D B ek p4 (9999 : Int32) q19.2 (Y ++ [cDb cy aD b14]) _ hk71) rfl rfl (by rw [hR9]; decide) (lw_g_mk tw_1145 rfl) (lw_g_mk tw_1 rfl) (by decide) rfl (lw_g_mk tw_1142 rfl) rfl (Nat.le_of_ble_eq_true rfl) dL_areChances_263 ⟨by rw [hRc]; omega, by rw [hRs]; omega⟩ rfl rfl (fun v72 hv73 => ?_) (fun k74 hv75 => ?_)
                            · rcases hq76 : q22.1 with x23 | e24
                              · rw [hq76, Sum.elim_inl] at h
                                rw [hq76] at hv73
                                have hv73 : (Sum.inl (some (Value.double x23)) : Option Value ⊕ Nat) = .inl v72 := hv73
                                cases hv73
                                refine x_dconst0 C dL_areChances_266 ?_
                                refine x_dcmp C dL_areChances_267 ?_
                                refine x_if_ne C (tgt := 275) dL_areChances_268 (by decide) (fun hc77 => ?_) (fun hc77 => ?_)
                                · rw [if_pos hc77] at h
                                  refine x_widen (cells2 := (((((0 + 1) + 9) + 42) + 1) + 3)) (slots2 := (((((0 + 120) + 1080) + 252) + 6) + 18)) (by omega) (by omega) ?_
                                  refine x_sub [] rfl ?_
                                  exact hJ55 q22.2 _ h hret
                                · rw [if_neg hc77] at h
                                  refine x_iconst C (v := 1) dL_areChances_271 (by decide) ?_
                                  refine x_goto C (tgt := 276) dL_areChances_272 (by decide) ?_
                                  cases h
                                  refine x_drop _ ?_
                                  exact hret _ _ _ _ dL_areChances_276 (nar_Z (Or.inr rfl)) (by omega) (by omega)
                              · rw [hq76] at hv73; cases hv73
                            · rcases hq78 : q22.1 with x23 | e24
                              · rw [hq78] at hv75; cases hv75
                              · rw [hq78, Sum.elim_inr] at h
                                cases h
                        · rw [hq69] at hv66; cases hv66
                      · rcases hq79 : q19.1 with x20 | e21
                        · rw [hq79] at hv68; cases hv68
                        · rw [hq79, Sum.elim_inr] at h
                          cases h
                  · rw [hq62] at hv59; cases hv59
                · rcases hq80 : q16.1 with x17 | e18
                  · rw [hq80] at hv61; cases hv61
                  · rw [hq80, Sum.elim_inr] at h
                    cases h
            · rw [hq54] at hv51; cases hv51
          · rcases hq81 : q12.1 with x13 | e14
            · rw [hq81] at hv53; cases hv53
            · rw [hq81, Sum.elim_inr] at h
              cases h
        · rw [Sum.elim_inr] at h
          show ∀ (cells9 slots9 pc9 : Nat) (lcs9 : List (Nat × Value)), decode cL_areChances pc9 = .ok (.ireturn, 1) → narrow .boolean (.int w194.1) = .int w194.1 → cells9 ≤ 56 → slots9 ≤ 1476 → X p l e R s m args below meth c 10 cy D B cells9 slots9 Q pc9 lcs9 [.int w194.1] w194.2 Y
          cases h
          exact hret
