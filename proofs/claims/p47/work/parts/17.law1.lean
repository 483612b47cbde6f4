def fL_cell (xs : Nat → Int32) (L : Nat) (p2 : Int32) : Option (Int32) := (if (Int32.ofNat L) ≤ p2 then (some ((0 : Int32))) else (gd (inb p2 L) (some (xs p2.toNatClampNeg))))
set_option maxHeartbeats 4000000 in
set_option maxRecDepth 100000 in
theorem okL_cell (l : Launch) (cy : Nat → ClassId) (D : va_G) (B : Nat) (ek : EK) (xs : Nat → Int32) (L : Nat) (hxs : xs = sX ek) (hLs : L = sL ek) (p2 : Int32) (σ : Mem) (Y : va_W) (res : Int32) (h : fL_cell xs L p2 = some res) : CT l cy D B ek yL_cell cL_cell 2 (some .int) ({ frames := 0, cells := 0, slots := 0, locals := 0 } : Room) [.ref (sA ek), .int p2] σ Y (some (.int res)) σ Y := by
  refine met_X (own := "HostelBedsLaw") (by decide) rfl (Nat.le_of_ble_eq_true rfl) ?_
  intro p e s m args below meth c C hrT hlk
  have hret : ∀ (pc9 : Nat) (lcs9 : List (Nat × Value)), decode cL_cell pc9 = .ok (.ireturn, 1) → narrow .int (.int res) = .int res → X p l e ({ frames := 0, cells := 0, slots := 0, locals := 0 } : Room) s m args below meth c 2 cy D B 0 0 (MQ below (QR cy D B (some (.int res)) σ Y) args s 0 0 (aB B)) pc9 lcs9 [.int res] σ Y := fun _ _ hd hn => x_zret C hrT hlk hn hd
  generalize (MQ below (QR cy D B (some (.int res)) σ Y) args s 0 0 (aB B)) = Q at hret ⊢
  obtain ⟨R, hR9⟩ : ∃ R : Room, R = ({ frames := 0, cells := 0, slots := 0, locals := 0 } : Room) := ⟨_, rfl⟩
  rw [← hR9] at hret ⊢
  have hRc : R.cells = 0 := by rw [hR9]
  have hRs : R.slots = 0 := by rw [hR9]
  unfold fL_cell at h
  show X p l e R s m args below meth c 2 cy D B 0 0 Q 0 [(0, .ref (sA ek)), (1, .int p2)] [] σ Y
  refine x_iload_n C dL_cell_0 rfl 1 rfl ?_
  refine x_aload_n C dL_cell_1 rfl 0 rfl ?_
  refine x_slenE C hLs dL_cell_2 ?_
  refine x_icmp_ge C (tgt := 12) dL_cell_3 (by decide) (fun hc1 => ?_) (fun hc1 => ?_)
  · rw [if_pos hc1] at h
    refine x_iconst C (v := 0) dL_cell_12 (by decide) ?_
    cases h
    exact hret _ _ dL_cell_13 rfl
  · rw [if_neg hc1] at h
    refine x_aload_n C dL_cell_6 rfl 0 rfl ?_
    refine x_iload_n C dL_cell_7 rfl 1 rfl ?_
    obtain ⟨hg2, h⟩ := gd_some h
    refine x_sldE C hxs hLs hg2 dL_cell_8 ?_
    refine x_goto C (tgt := 13) dL_cell_9 (by decide) ?_
    cases h
    exact hret _ _ dL_cell_13 rfl
def fL_part (p1 : Int32) (p2 : Int32) : Option (Int32) := (gd (¬ p2 = 0) (some ((p1 &&& (2147483647 : Int32)) - (p1 &&& (2147483647 : Int32)) / p2 * p2)))
set_option maxHeartbeats 4000000 in
set_option maxRecDepth 100000 in
theorem okL_part (l : Launch) (cy : Nat → ClassId) (D : va_G) (B : Nat) (ek : EK) (p1 : Int32) (p2 : Int32) (σ : Mem) (Y : va_W) (res : Int32) (h : fL_part p1 p2 = some res) : CT l cy D B ek yL_part cL_part 2 (some .int) ({ frames := 0, cells := 0, slots := 0, locals := 0 } : Room) [.int p1, .int p2] σ Y (some (.int res)) σ Y := by
  refine met_X (own := "HostelBedsLaw") (by decide) rfl (Nat.le_of_ble_eq_true rfl) ?_
  intro p e s m args below meth c C hrT hlk
  have hret : ∀ (pc9 : Nat) (lcs9 : List (Nat × Value)), decode cL_part pc9 = .ok (.ireturn, 1) → narrow .int (.int res) = .int res → X p l e ({ frames := 0, cells := 0, slots := 0, locals := 0 } : Room) s m args below meth c 2 cy D B 0 0 (MQ below (QR cy D B (some (.int res)) σ Y) args s 0 0 (aB B)) pc9 lcs9 [.int res] σ Y := fun _ _ hd hn => x_zret C hrT hlk hn hd
  generalize (MQ below (QR cy D B (some (.int res)) σ Y) args s 0 0 (aB B)) = Q at hret ⊢
  obtain ⟨R, hR9⟩ : ∃ R : Room, R = ({ frames := 0, cells := 0, slots := 0, locals := 0 } : Room) := ⟨_, rfl⟩
  rw [← hR9] at hret ⊢
  have hRc : R.cells = 0 := by rw [hR9]
  have hRs : R.slots = 0 := by rw [hR9]
  unfold fL_part at h
  show X p l e R s m args below meth c 2 cy D B 0 0 Q 0 [(0, .int p1), (1, .int p2)] [] σ Y
  refine x_iload_n C dL_part_0 rfl 0 rfl ?_
  refine x_ldc C (v := 2147483647) (lw_g_mk tw_481 rfl) dL_part_1 ?_
  refine x_iand C dL_part_3 ?_
  refine x_iload_n C dL_part_4 rfl 1 rfl ?_
  obtain ⟨hg1, h⟩ := gd_some h
  refine x_irem C dL_part_5 hg1 ?_
  cases h
  exact hret _ _ dL_part_6 rfl
def jL_lays_71 (a22 : Int32 × (Nat → Int32)) (t6 : Int32) : Option ((Int32 × (Nat → Int32)) ⊕ ((Nat → Int32))) := (some (.inl (a22.1 + (1 : Int32), upd a22.2 (a22.1 / (4 : Int32)).toNatClampNeg (((a22.2 (a22.1 / (4 : Int32)).toNatClampNeg) <<< ((8 : Int32) &&& 31)) ||| t6))))
def stL_lays_22 (nV : Nat) (fV : (Nat → Int32)) (a7 : Int32 × Mem) (a22 : Int32 × (Nat → Int32)) : Option ((Int32 × (Nat → Int32)) ⊕ ((Nat → Int32))) := (if (20 : Int32) ≤ a22.1 then (some (.inr a22.2)) else (gd (inb (a22.1 / (4 : Int32)) 5) ((fJ0_length_8abf5_TS nV fV).bind fun q5 => (if q5 ≤ (a7.1 + a22.1) then (jL_lays_71 a22 (32 : Int32)) else ((fJ0_charAt_5068e_TS nV fV (a7.1 + a22.1)).bind fun q7 => (jL_lays_71 a22 (q7 &&& (255 : Int32))))))))
def stL_lays_7 (nV : Nat) (fV : (Nat → Int32)) (a7 : Int32 × Mem) : Option ((Int32 × Mem) ⊕ (Mem)) := ((fJ0_length_8abf5_TS nV fV).bind fun q4 => (if q4 ≤ a7.1 then (some (.inr a7.2)) else ((loop (stL_lays_22 nV fV a7) 5000 ((0 : Int32), (fun _ => 0))).bind fun b22 => ((fX5_append (b22 (0 : Int32).toNatClampNeg) (b22 (1 : Int32).toNatClampNeg) (b22 (2 : Int32).toNatClampNeg) (b22 (3 : Int32).toNatClampNeg) (b22 (4 : Int32).toNatClampNeg) a7.2).bind fun q8 => Sum.elim (fun x9 => (some (.inl (a7.1 + (20 : Int32), q8.2)))) (fun e10 => none) q8.1))))
def fL_lays (nV : Nat) (fV : Nat → Int32) (σ : Mem) : Option (Mem) := ((fX5_truncate (0 : Int32) σ).bind fun q1 => Sum.elim (fun x2 => ((loop (stL_lays_7 nV fV) 20 ((0 : Int32), q1.2)).bind fun b7 => ((fJ0_length_8abf5_TS nV fV).bind fun q11 => ((fX5_truncate q11 b7).bind fun q12 => Sum.elim (fun x13 => (some q12.2)) (fun e14 => none) q12.1)))) (fun e3 => none) q1.1)
set_option maxHeartbeats 4000000 in
set_option maxRecDepth 100000 in
theorem okL_lays (l : Launch) (hlf : l.stackTraces = false) (cy : Nat → ClassId) (D : va_G) (B : Nat) (ek : EK) (aS : Nat) (aV : Nat) (iS : Nat) (iV : Nat) (h1V : Int32) (h2V : Int32) (nV : Nat) (fV : Nat → Int32) (σ : Mem) (Y : va_W) (hTS : Y[iS]? = some (aS, .inr (0, [.ref aV, .int 0, .int h1V, .int h2V]))) (hTV : Y[iV]? = some (aV, .inl (cy 2, nV, .inl fV))) (res : Mem) (h : fL_lays nV fV σ = some res) : CTE l cy D B ek yL_lays cL_lays 5 none ({ frames := 7, cells := 42, slots := 232, locals := 145 } : Room) 42 232 [.ref (B + oHB), .ref aS] σ Y (fun v9 σ9 Y9 => v9 = none ∧ σ9 = res ∧ Y9 = Y) := by
  refine met_XE (own := "HostelBedsLaw") (by decide) rfl (Nat.le_of_ble_eq_true rfl) ?_
  intro p e s m args below meth c C hrT hlk
  have hret : ∀ (cells9 slots9 pc9 : Nat) (lcs9 : List (Nat × Value)), decode cL_lays pc9 = .ok (.return_, 1) → cells9 ≤ 42 → slots9 ≤ 232 → X p l e ({ frames := 7, cells := 42, slots := 232, locals := 145 } : Room) s m args below meth c 5 cy D B cells9 slots9 (MQ below (QE cy D B (fun v9 σ9 Y9 => v9 = none ∧ σ9 = res ∧ Y9 = Y)) args s 42 232 (aB B)) pc9 lcs9 [] res Y := fun cells9 slots9 pc9 lcs9 hd h1 h2 => x_vretE C hrT hlk hd h1 h2 ⟨rfl, rfl, rfl⟩
  generalize (MQ below (QE cy D B (fun v9 σ9 Y9 => v9 = none ∧ σ9 = res ∧ Y9 = Y)) args s 42 232 (aB B)) = Q at hret ⊢
  obtain ⟨R, hR9⟩ : ∃ R : Room, R = ({ frames := 7, cells := 42, slots := 232, locals := 145 } : Room) := ⟨_, rfl⟩
  rw [← hR9] at hret ⊢
  have hRc : R.cells = 42 := by rw [hR9]
  have hRs : R.slots = 232 := by rw [hR9]
  unfold fL_lays at h
  show X p l e R s m args below meth c 5 cy D B 0 0 Q 0 [(0, .ref (B + oHB)), (1, .ref aS)] [] σ Y
  refine x_aload_n C dL_lays_0 rfl 0 rfl ?_
  refine x_iconst C (v := 0) dL_lays_1 (by decide) ?_
  obtain ⟨q1, hk1, h⟩ := Option.bind_eq_some_iff.mp h
  refine x_callVX C (As := [.int (0 : Int32)]) (rest := []) (cells2 := (0 + 1)) (slots2 := (0 + 6)) (lw_g_mk tw_489 rfl) (lw_g_mk tw_490 rfl) (c_HB) (C1 := "HostelBeds") (T := TX5) (N := 12) (ci := 7) rfl (okX5_truncate l hlf cy D B ek (0 : Int32) σ Y _ hk1) rfl rfl (by rw [hR9]; decide) (lw_g_mk tw_491 rfl) (lw_g_mk tw_1 rfl) (by decide) rfl (lw_g_mk tw_488 rfl) rfl (Nat.le_of_ble_eq_true rfl) dL_lays_2 ⟨by rw [hRc]; omega, by rw [hRs]; omega⟩ rfl rfl (fun v2 hv3 => ?_) (fun k4 hv5 => ?_)
  · rcases hq6 : q1.1 with x2 | e3
    · rw [hq6, Sum.elim_inl] at h
      rw [hq6] at hv3
      have hv3 : (Sum.inl (none) : Option Value ⊕ Nat) = .inl v2 := hv3
      cases hv3
      refine x_iconst C (v := 0) dL_lays_5 (by decide) ?_
      refine x_istore_n C [(2, .int (0 : Int32)), (0, .ref (B + oHB)), (1, .ref aS)] dL_lays_6 rfl (by decide) rfl ?_
      obtain ⟨b7, hk27, h⟩ := Option.bind_eq_some_iff.mp h
      refine x_sub [1, 2, 0] rfl ?_
      refine x_widen (cells2 := ((0 + 1) + (20 - 20) * 2)) (slots2 := ((0 + 6) + (20 - 20) * 11)) (by omega) (by omega) ?_
      refine loop_runN (N := 20) (step := stL_lays_7 nV fV) (P := fun (n7 : Nat) (a7 : Int32 × Mem) => X p l e R s m args below meth c 5 cy D B ((0 + 1) + (20 - n7) * 2) ((0 + 6) + (20 - n7) * 11) Q 7 [(0, .ref (B + oHB)), (1, .ref aS), (2, .int a7.1)] [] a7.2 Y) (K := fun (b7 : Mem) => X p l e R s m args below meth c 5 cy D B ((0 + 1) + 40) ((0 + 6) + 220) Q 105 [(0, .ref (B + oHB)), (1, .ref aS)] [] b7 Y) ?_ 20 ((0 : Int32), q1.2) b7 (Nat.le_refl _) hk27 ?_
      · intro n7 a7 r hn7 h hA7 hB8
        unfold stL_lays_7 at h
        refine x_iload_n C dL_lays_7 rfl 2 rfl ?_
        refine x_aload_n C dL_lays_8 rfl 1 rfl ?_
        obtain ⟨q4, hk9, h⟩ := Option.bind_eq_some_iff.mp h
        refine x_callV C (As := []) (rest := [.int a7.1]) (lw_g_mk tw_494 rfl) (lw_g_mk tw_495 rfl) (wl_ex hTS) (C1 := "java/lang/String") (T := TJ0) (N := 4) (ci := 0) rfl (okJ0_length_8abf5_TS l cy D B ek _ _ _ _ _ _ nV fV a7.2 Y hTS hTV _ hk9) rfl rfl (by rw [hR9]; decide) (lw_g_mk tw_496 rfl) (lw_g_mk tw_13 rfl) (by decide) rfl (lw_g_mk tw_493 rfl) rfl (Nat.le_of_ble_eq_true rfl) dL_lays_9 ⟨by rw [hRc]; omega, by rw [hRs]; omega⟩ ?_
        refine x_icmp_ge C (tgt := 105) dL_lays_12 (by decide) (fun hc10 => ?_) (fun hc10 => ?_)
        · rw [if_pos hc10] at h
          cases h
          refine x_widen (cells2 := ((0 + 1) + 40)) (slots2 := ((0 + 6) + 220)) (by omega) (by omega) ?_
          refine x_sub [0, 1] rfl ?_
          exact hB8 a7.2 rfl
        · rw [if_neg hc10] at h
          refine x_iconst C (v := 5) dL_lays_15 (by decide) ?_
          refine x_newI C (lw_g_mk tw_105 rfl) (z := 5) (by decide) (by decide) (by decide) (by rw [hRc]; omega) (by rw [hRs]; omega) dL_lays_16 (fun aW => ?_)
          refine x_astore_n C [(3, .ref aW), (0, .ref (B + oHB)), (1, .ref aS), (2, .int a7.1)] dL_lays_18 rfl (by decide) rfl ?_
          refine x_iconst C (v := 0) dL_lays_19 (by decide) ?_
          refine x_istore C [(4, .int (0 : Int32)), (3, .ref aW), (0, .ref (B + oHB)), (1, .ref aS), (2, .int a7.1)] dL_lays_20 (by decide) rfl ?_
          obtain ⟨b22, hk19, h⟩ := Option.bind_eq_some_iff.mp h
          refine x_sub [2, 3, 4, 1, 0] rfl ?_
          refine loop_run (step := stL_lays_22 nV fV a7) (P := fun (a22 : Int32 × (Nat → Int32)) => X p l e R s m args below meth c 5 cy D B (((0 + 1) + (20 - (n7 + 1)) * 2) + 1) (((0 + 6) + (20 - (n7 + 1)) * 11) + 5) Q 22 [(0, .ref (B + oHB)), (1, .ref aS), (2, .int a7.1), (3, .ref aW), (4, .int a22.1)] [] a7.2 (Y ++ [cW5 cy aW a22.2])) (K := fun (b22 : (Nat → Int32)) => X p l e R s m args below meth c 5 cy D B (((0 + 1) + (20 - (n7 + 1)) * 2) + 1) (((0 + 6) + (20 - (n7 + 1)) * 11) + 5) Q 79 [(0, .ref (B + oHB)), (1, .ref aS), (2, .int a7.1), (3, .ref aW)] [] a7.2 (Y ++ [cW5 cy aW b22])) ?_ 5000 ((0 : Int32), (fun _ => 0)) b22 hk19 ?_
          · intro a22 r h hA11 hB12
            unfold stL_lays_22 at h
            refine x_iload C dL_lays_22 4 rfl ?_
            refine x_bipush C (v := 20) dL_lays_24 (by decide) ?_
            refine x_icmp_ge C (tgt := 79) dL_lays_26 (by decide) (fun hc13 => ?_) (fun hc13 => ?_)
            · rw [if_pos hc13] at h
              cases h
              refine x_sub [0, 1, 2, 3] rfl ?_
              exact hB12 a22.2 rfl
            · rw [if_neg hc13] at h
              refine x_aload_n C dL_lays_29 rfl 3 rfl ?_
              refine x_iload C dL_lays_30 4 rfl ?_
              refine x_iconst C (v := 4) dL_lays_32 (by decide) ?_
              refine x_idiv C dL_lays_33 (by decide) ?_
              refine x_aload_n C dL_lays_34 rfl 3 rfl ?_
              refine x_iload C dL_lays_35 4 rfl ?_
              refine x_iconst C (v := 4) dL_lays_37 (by decide) ?_
              refine x_idiv C dL_lays_38 (by decide) ?_
              obtain ⟨hg14, h⟩ := gd_some h
              refine x_iald C _ (wl_ex pu_0) hg14 dL_lays_39 ?_
              refine x_bipush C (v := 8) dL_lays_40 (by decide) ?_
              refine x_ishl C dL_lays_42 ?_
              refine x_iload_n C dL_lays_43 rfl 2 rfl ?_
              refine x_iload C dL_lays_44 4 rfl ?_
              refine x_iadd C dL_lays_46 ?_
              refine x_aload_n C dL_lays_47 rfl 1 rfl ?_
              obtain ⟨q5, hk15, h⟩ := Option.bind_eq_some_iff.mp h
              refine x_callV C (As := []) (rest := [.int (a7.1 + a22.1), .int ((a22.2 (a22.1 / (4 : Int32)).toNatClampNeg) <<< ((8 : Int32) &&& 31)), .int (a22.1 / (4 : Int32)), .ref aW]) (lw_g_mk tw_494 rfl) (lw_g_mk tw_495 rfl) (wl_ex (ap_some hTS)) (C1 := "java/lang/String") (T := TJ0) (N := 4) (ci := 0) rfl (okJ0_length_8abf5_TS l cy D B ek _ _ _ _ _ _ nV fV a7.2 (Y ++ [cW5 cy aW a22.2]) (ap_some hTS) (ap_some hTV) _ hk15) rfl rfl (by rw [hR9]; decide) (lw_g_mk tw_496 rfl) (lw_g_mk tw_13 rfl) (by decide) rfl (lw_g_mk tw_493 rfl) rfl (Nat.le_of_ble_eq_true rfl) dL_lays_48 ⟨by rw [hRc]; omega, by rw [hRs]; omega⟩ ?_
              have hJ16 : ∀ (t6 : Int32) (r9 : (Int32 × (Nat → Int32)) ⊕ ((Nat → Int32))), jL_lays_71 a22 t6 = some r9 → (∀ a2, r9 = .inl a2 → (fun (a22 : Int32 × (Nat → Int32)) => X p l e R s m args below meth c 5 cy D B (((0 + 1) + (20 - (n7 + 1)) * 2) + 1) (((0 + 6) + (20 - (n7 + 1)) * 11) + 5) Q 22 [(0, .ref (B + oHB)), (1, .ref aS), (2, .int a7.1), (3, .ref aW), (4, .int a22.1)] [] a7.2 (Y ++ [cW5 cy aW a22.2])) a2) → (∀ b2, r9 = .inr b2 → (fun (b22 : (Nat → Int32)) => X p l e R s m args below meth c 5 cy D B (((0 + 1) + (20 - (n7 + 1)) * 2) + 1) (((0 + 6) + (20 - (n7 + 1)) * 11) + 5) Q 79 [(0, .ref (B + oHB)), (1, .ref aS), (2, .int a7.1), (3, .ref aW)] [] a7.2 (Y ++ [cW5 cy aW b22])) b2) → X p l e R s m args below meth c 5 cy D B (((0 + 1) + (20 - (n7 + 1)) * 2) + 1) (((0 + 6) + (20 - (n7 + 1)) * 11) + 5) Q 71 [(0, .ref (B + oHB)), (1, .ref aS), (2, .int a7.1), (3, .ref aW), (4, .int a22.1)] [.int t6, .int ((a22.2 (a22.1 / (4 : Int32)).toNatClampNeg) <<< ((8 : Int32) &&& 31)), .int (a22.1 / (4 : Int32)), .ref aW] a7.2 (Y ++ [cW5 cy aW a22.2]) := by
                intro t6 r h hA11 hB12
                unfold jL_lays_71 at h
                refine x_ior C dL_lays_71 ?_
                refine x_iast C _ (wl_ex pu_0) hg14 dL_lays_72 (wl_exs ps_0) ?_
                refine x_iinc C (k := 4) [(4, .int (a22.1 + (1 : Int32))), (0, .ref (B + oHB)), (1, .ref aS), (2, .int a7.1), (3, .ref aW)] dL_lays_73 rfl rfl (by decide) rfl ?_
                refine x_goto C (tgt := 22) dL_lays_76 (by decide) ?_
                cases h
                refine x_sub [1, 2, 3, 4, 0] rfl ?_
                exact hA11 (a22.1 + (1 : Int32), upd a22.2 (a22.1 / (4 : Int32)).toNatClampNeg (((a22.2 (a22.1 / (4 : Int32)).toNatClampNeg) <<< ((8 : Int32) &&& 31)) ||| t6)) rfl
              refine x_icmp_ge C (tgt := 69) dL_lays_51 (by decide) (fun hc17 => ?_) (fun hc17 => ?_)
              · rw [if_pos hc17] at h
                refine x_bipush C (v := 32) dL_lays_69 (by decide) ?_
                exact hJ16 (32 : Int32) _ h hA11 hB12
              · rw [if_neg hc17] at h
                refine x_aload_n C dL_lays_54 rfl 1 rfl ?_
                refine x_iload_n C dL_lays_55 rfl 2 rfl ?_
                refine x_iload C dL_lays_56 4 rfl ?_
                refine x_iadd C dL_lays_58 ?_
                obtain ⟨q7, hk18, h⟩ := Option.bind_eq_some_iff.mp h
                refine x_callV C (As := [.int (a7.1 + a22.1)]) (rest := [.int ((a22.2 (a22.1 / (4 : Int32)).toNatClampNeg) <<< ((8 : Int32) &&& 31)), .int (a22.1 / (4 : Int32)), .ref aW]) (lw_g_mk tw_504 rfl) (lw_g_mk tw_505 rfl) (wl_ex (ap_some hTS)) (C1 := "java/lang/String") (T := TJ0) (N := 4) (ci := 0) rfl (okJ0_charAt_5068e_TS l cy D B ek _ _ _ _ _ _ nV fV (a7.1 + a22.1) a7.2 (Y ++ [cW5 cy aW a22.2]) (ap_some hTS) (ap_some hTV) _ hk18) rfl rfl (by rw [hR9]; decide) (lw_g_mk tw_506 rfl) (lw_g_mk tw_13 rfl) (by decide) rfl (lw_g_mk tw_503 rfl) rfl (Nat.le_of_ble_eq_true rfl) dL_lays_59 ⟨by rw [hRc]; omega, by rw [hRs]; omega⟩ ?_
                refine x_sipush C (v := 255) dL_lays_62 (by decide) ?_
                refine x_iand C dL_lays_65 ?_
                refine x_goto C (tgt := 71) dL_lays_66 (by decide) ?_
                exact hJ16 (q7 &&& (255 : Int32)) _ h hA11 hB12
          · show X p l e R s m args below meth c 5 cy D B (((0 + 1) + (20 - (n7 + 1)) * 2) + 1) (((0 + 6) + (20 - (n7 + 1)) * 11) + 5) Q 79 [(0, .ref (B + oHB)), (1, .ref aS), (2, .int a7.1), (3, .ref aW)] [] a7.2 (Y ++ [cW5 cy aW b22])
            refine x_aload_n C dL_lays_79 rfl 0 rfl ?_
            refine x_aload_n C dL_lays_80 rfl 3 rfl ?_
            refine x_iconst C (v := 0) dL_lays_81 (by decide) ?_
            refine x_iald C _ (wl_ex pu_0) (by decide : inb (0 : Int32) 5) dL_lays_82 ?_
            refine x_aload_n C dL_lays_83 rfl 3 rfl ?_
            refine x_iconst C (v := 1) dL_lays_84 (by decide) ?_
            refine x_iald C _ (wl_ex pu_0) (by decide : inb (1 : Int32) 5) dL_lays_85 ?_
            refine x_aload_n C dL_lays_86 rfl 3 rfl ?_
            refine x_iconst C (v := 2) dL_lays_87 (by decide) ?_
            refine x_iald C _ (wl_ex pu_0) (by decide : inb (2 : Int32) 5) dL_lays_88 ?_
            refine x_aload_n C dL_lays_89 rfl 3 rfl ?_
            refine x_iconst C (v := 3) dL_lays_90 (by decide) ?_
            refine x_iald C _ (wl_ex pu_0) (by decide : inb (3 : Int32) 5) dL_lays_91 ?_
            refine x_aload_n C dL_lays_92 rfl 3 rfl ?_
            refine x_iconst C (v := 4) dL_lays_93 (by decide) ?_
            refine x_iald C _ (wl_ex pu_0) (by decide : inb (4 : Int32) 5) dL_lays_94 ?_
            obtain ⟨q8, hk20, h⟩ := Option.bind_eq_some_iff.mp h
            refine x_callVX C (As := [.int (b22 (0 : Int32).toNatClampNeg), .int (b22 (1 : Int32).toNatClampNeg), .int (b22 (2 : Int32).toNatClampNeg), .int (b22 (3 : Int32).toNatClampNeg), .int (b22 (4 : Int32).toNatClampNeg)]) (rest := []) (cells2 := ((((0 + 1) + (20 - (n7 + 1)) * 2) + 1) + 1)) (slots2 := ((((0 + 6) + (20 - (n7 + 1)) * 11) + 5) + 6)) (lw_g_mk tw_542 rfl) (lw_g_mk tw_543 rfl) (c_HB) (C1 := "HostelBeds") (T := TX5) (N := 12) (ci := 7) rfl (okX5_append l hlf cy D B ek (b22 (0 : Int32).toNatClampNeg) (b22 (1 : Int32).toNatClampNeg) (b22 (2 : Int32).toNatClampNeg) (b22 (3 : Int32).toNatClampNeg) (b22 (4 : Int32).toNatClampNeg) a7.2 (Y ++ [cW5 cy aW b22]) _ hk20) rfl rfl (by rw [hR9]; decide) (lw_g_mk tw_544 rfl) (lw_g_mk tw_1 rfl) (by decide) rfl (lw_g_mk tw_541 rfl) rfl (Nat.le_of_ble_eq_true rfl) dL_lays_95 ⟨by rw [hRc]; omega, by rw [hRs]; omega⟩ rfl rfl (fun v21 hv22 => ?_) (fun k23 hv24 => ?_)
            · rcases hq25 : q8.1 with x9 | e10
              · rw [hq25, Sum.elim_inl] at h
                rw [hq25] at hv22
                have hv22 : (Sum.inl (some (Value.int x9)) : Option Value ⊕ Nat) = .inl v21 := hv22
                cases hv22
                refine x_pop C dL_lays_98 rfl ?_
                refine x_iinc C (k := 2) [(2, .int (a7.1 + (20 : Int32))), (0, .ref (B + oHB)), (1, .ref aS), (3, .ref aW)] dL_lays_99 rfl rfl (by decide) rfl ?_
                refine x_goto C (tgt := 7) dL_lays_102 (by decide) ?_
                cases h
                refine x_widen (cells2 := ((0 + 1) + (20 - n7) * 2)) (slots2 := ((0 + 6) + (20 - n7) * 11)) (by omega) (by omega) ?_
                refine x_drop _ ?_
                refine x_sub [1, 2, 0] rfl ?_
                exact hA7 (a7.1 + (20 : Int32), q8.2) rfl
              · rw [hq25] at hv22; cases hv22
            · rcases hq26 : q8.1 with x9 | e10
              · rw [hq26] at hv24; cases hv24
              · rw [hq26, Sum.elim_inr] at h
                cases h
      · show X p l e R s m args below meth c 5 cy D B ((0 + 1) + 40) ((0 + 6) + 220) Q 105 [(0, .ref (B + oHB)), (1, .ref aS)] [] b7 Y
        refine x_aload_n C dL_lays_105 rfl 0 rfl ?_
        refine x_aload_n C dL_lays_106 rfl 1 rfl ?_
        obtain ⟨q11, hk28, h⟩ := Option.bind_eq_some_iff.mp h
        refine x_callV C (As := []) (rest := [.ref (B + oHB)]) (lw_g_mk tw_494 rfl) (lw_g_mk tw_495 rfl) (wl_ex hTS) (C1 := "java/lang/String") (T := TJ0) (N := 4) (ci := 0) rfl (okJ0_length_8abf5_TS l cy D B ek _ _ _ _ _ _ nV fV b7 Y hTS hTV _ hk28) rfl rfl (by rw [hR9]; decide) (lw_g_mk tw_496 rfl) (lw_g_mk tw_13 rfl) (by decide) rfl (lw_g_mk tw_493 rfl) rfl (Nat.le_of_ble_eq_true rfl) dL_lays_107 ⟨by rw [hRc]; omega, by rw [hRs]; omega⟩ ?_
        obtain ⟨q12, hk29, h⟩ := Option.bind_eq_some_iff.mp h
        refine x_callVX C (As := [.int q11]) (rest := []) (cells2 := (((0 + 1) + 40) + 1)) (slots2 := (((0 + 6) + 220) + 6)) (lw_g_mk tw_489 rfl) (lw_g_mk tw_490 rfl) (c_HB) (C1 := "HostelBeds") (T := TX5) (N := 12) (ci := 7) rfl (okX5_truncate l hlf cy D B ek q11 b7 Y _ hk29) rfl rfl (by rw [hR9]; decide) (lw_g_mk tw_491 rfl) (lw_g_mk tw_1 rfl) (by decide) rfl (lw_g_mk tw_488 rfl) rfl (Nat.le_of_ble_eq_true rfl) dL_lays_110 ⟨by rw [hRc]; omega, by rw [hRs]; omega⟩ rfl rfl (fun v30 hv31 => ?_) (fun k32 hv33 => ?_)
        · rcases hq34 : q12.1 with x13 | e14
          · rw [hq34, Sum.elim_inl] at h
            rw [hq34] at hv31
            have hv31 : (Sum.inl (none) : Option Value ⊕ Nat) = .inl v30 := hv31
            cases hv31
            cases h
            exact hret _ _ _ _ dL_lays_113 (by omega) (by omega)
          · rw [hq34] at hv31; cases hv31
        · rcases hq35 : q12.1 with x13 | e14
          · rw [hq35] at hv33; cases hv33
          · rw [hq35, Sum.elim_inr] at h
            cases h
    · rw [hq6] at hv3; cases hv3
  · rcases hq36 : q1.1 with x2 | e3
    · rw [hq36] at hv5; cases hv5
    · rw [hq36, Sum.elim_inr] at h
      cases h
def fL_loads (σ : Mem) : Option (Int32 × Mem) := ((fX5_load σ).bind fun q1 => Sum.elim (fun x2 => (some (x2, q1.2))) (fun e3 => (if e3 = 2 then (some ((-1 : Int32), q1.2)) else none)) q1.1)
set_option maxHeartbeats 4000000 in
set_option maxRecDepth 100000 in
theorem okL_loads (l : Launch) (hlf : l.stackTraces = false) (cy : Nat → ClassId) (D : va_G) (B : Nat) (ek : EK) (σ : Mem) (Y : va_W) (res : Int32 × Mem) (h : fL_loads σ = some res) : CTW l cy D B ek yL_loads cL_loads 2 (some .int) [(0, 4, 5, 31)] ({ frames := 12, cells := 1, slots := 6, locals := 249 } : Room) 1 6 [.ref (B + oHB)] σ Y (some (.int res.1)) res.2 Y := by
  refine met_XW (own := "HostelBedsLaw") (by decide) rfl (Nat.le_of_ble_eq_true rfl) ?_
  intro p e s m args below meth c C hrT hlk htab
  have hret : ∀ (cells9 slots9 pc9 : Nat) (lcs9 : List (Nat × Value)), decode cL_loads pc9 = .ok (.ireturn, 1) → narrow .int (.int res.1) = .int res.1 → cells9 ≤ 1 → slots9 ≤ 6 → X p l e ({ frames := 12, cells := 1, slots := 6, locals := 249 } : Room) s m args below meth c 2 cy D B cells9 slots9 (vx_MQ below (QX cy D B (.inl (some (.int res.1))) res.2 Y) (fun _ _ _ => False) args s 1 6 (aB B)) pc9 lcs9 [.int res.1] res.2 Y := fun cells9 slots9 pc9 lcs9 hd hn h1 h2 => x_zretX C hrT hlk hn hd h1 h2
  generalize (vx_MQ below (QX cy D B (.inl (some (.int res.1))) res.2 Y) (fun _ _ _ => False) args s 1 6 (aB B)) = Q at hret ⊢
  obtain ⟨R, hR9⟩ : ∃ R : Room, R = ({ frames := 12, cells := 1, slots := 6, locals := 249 } : Room) := ⟨_, rfl⟩
  rw [← hR9] at hret ⊢
  have hRc : R.cells = 1 := by rw [hR9]
  have hRs : R.slots = 6 := by rw [hR9]
  unfold fL_loads at h
  show X p l e R s m args below meth c 2 cy D B 0 0 Q 0 [(0, .ref (B + oHB))] [] σ Y
  refine x_aload_n C dL_loads_0 rfl 0 rfl ?_
  obtain ⟨q1, hk1, h⟩ := Option.bind_eq_some_iff.mp h
  refine x_callVX C (As := []) (rest := []) (cells2 := 1) (slots2 := 6) (lw_g_mk tw_570 rfl) (lw_g_mk tw_571 rfl) (c_HB) (C1 := "HostelBeds") (T := TX5) (N := 12) (ci := 7) rfl (okX5_load l hlf cy D B ek σ Y _ hk1) rfl rfl (by rw [hR9]; decide) (lw_g_mk tw_572 rfl) (lw_g_mk tw_1 rfl) (by decide) rfl (lw_g_mk tw_569 rfl) rfl (Nat.le_of_ble_eq_true rfl) dL_loads_1 (by rw [hR9]; decide) rfl rfl (fun v2 hv3 => ?_) (fun k4 hv5 => ?_)
  · rcases hq6 : q1.1 with x2 | e3
    · rw [hq6, Sum.elim_inl] at h
      rw [hq6] at hv3
      have hv3 : (Sum.inl (some (Value.int x2)) : Option Value ⊕ Nat) = .inl v2 := hv3
      cases hv3
      cases h
      exact hret _ _ _ _ dL_loads_4 rfl (by omega) (by omega)
    · rw [hq6] at hv3; cases hv3
  · rcases hq7 : q1.1 with x2 | e3
    · rw [hq7] at hv5; cases hv5
    · rw [hq7, Sum.elim_inr] at h
      rw [hq7] at hv5
      have hv5 : (Sum.inr e3 : Option Value ⊕ Nat) = .inr k4 := hv5
      cases hv5
      by_cases hc8 : k4 = 2
      · rw [if_pos hc8] at h
        subst hc8
        refine x_catch C htab [] ⟨0, 4, 5, 31⟩ [] rfl (fun z hz => by cases hz) (by decide +kernel) (by decide) (lw_g_mk tw_568 rfl) (by decide +kernel) (fun q9 => ?_)
        refine x_astore_n C [(1, .ref q9), (0, .ref (B + oHB))] dL_loads_5 rfl (by decide) rfl ?_
        refine x_iconst C (v := -1) dL_loads_6 (by decide) ?_
        cases h
        exact hret _ _ _ _ dL_loads_7 rfl (by omega) (by omega)
      rw [if_neg hc8] at h
      cases h
def fL_load (nV : Nat) (fV : Nat → Int32) (σ : Mem) : Option (Int32 × Mem) := ((fL_lays nV fV σ).bind fun q1 => ((fL_loads q1).bind fun q2 => (some (q2.1, q2.2))))
set_option maxHeartbeats 4000000 in
set_option maxRecDepth 100000 in
theorem okL_load (l : Launch) (hlf : l.stackTraces = false) (cy : Nat → ClassId) (D : va_G) (B : Nat) (ek : EK) (aS : Nat) (aV : Nat) (iS : Nat) (iV : Nat) (h1V : Int32) (h2V : Int32) (nV : Nat) (fV : Nat → Int32) (σ : Mem) (Y : va_W) (hTS : Y[iS]? = some (aS, .inr (0, [.ref aV, .int 0, .int h1V, .int h2V]))) (hTV : Y[iV]? = some (aV, .inl (cy 2, nV, .inl fV))) (res : Int32 × Mem) (h : fL_load nV fV σ = some res) : CTE l cy D B ek yL_load cL_load 2 (some .int) ({ frames := 13, cells := 43, slots := 238, locals := 270 } : Room) 43 238 [.ref (B + oHB), .ref aS] σ Y (fun v9 σ9 Y9 => v9 = (some (.int res.1)) ∧ σ9 = res.2 ∧ Y9 = Y) := by
  refine met_XE (own := "HostelBedsLaw") (by decide) rfl (Nat.le_of_ble_eq_true rfl) ?_
  intro p e s m args below meth c C hrT hlk
  have hret : ∀ (cells9 slots9 pc9 : Nat) (lcs9 : List (Nat × Value)), decode cL_load pc9 = .ok (.ireturn, 1) → narrow .int (.int res.1) = .int res.1 → cells9 ≤ 43 → slots9 ≤ 238 → X p l e ({ frames := 13, cells := 43, slots := 238, locals := 270 } : Room) s m args below meth c 2 cy D B cells9 slots9 (MQ below (QE cy D B (fun v9 σ9 Y9 => v9 = (some (.int res.1)) ∧ σ9 = res.2 ∧ Y9 = Y)) args s 43 238 (aB B)) pc9 lcs9 [.int res.1] res.2 Y := fun cells9 slots9 pc9 lcs9 hd hn h1 h2 => x_zretE C hrT hlk hn hd h1 h2 ⟨rfl, rfl, rfl⟩
  generalize (MQ below (QE cy D B (fun v9 σ9 Y9 => v9 = (some (.int res.1)) ∧ σ9 = res.2 ∧ Y9 = Y)) args s 43 238 (aB B)) = Q at hret ⊢
  obtain ⟨R, hR9⟩ : ∃ R : Room, R = ({ frames := 13, cells := 43, slots := 238, locals := 270 } : Room) := ⟨_, rfl⟩
  rw [← hR9] at hret ⊢
  have hRc : R.cells = 43 := by rw [hR9]
  have hRs : R.slots = 238 := by rw [hR9]
  unfold fL_load at h
  show X p l e R s m args below meth c 2 cy D B 0 0 Q 0 [(0, .ref (B + oHB)), (1, .ref aS)] [] σ Y
  refine x_aload_n C dL_load_0 rfl 0 rfl ?_
  refine x_aload_n C dL_load_1 rfl 1 rfl ?_
  obtain ⟨q1, hk1, h⟩ := Option.bind_eq_some_iff.mp h
  refine x_callSE C (As := [.ref (B + oHB), .ref aS]) (rest := []) (lw_g_mk tw_486 rfl) (okL_lays l hlf cy D B ek _ _ _ _ _ _ nV fV σ Y hTS hTV _ hk1) rfl rfl (by rw [hR9]; decide) (lw_g_mk tw_487 rfl) (lw_g_mk tw_0 rfl) (by decide) rfl (lw_g_mk tw_485 rfl) rfl (Nat.le_of_ble_eq_true rfl) dL_load_2 ⟨by rw [hRc]; omega, by rw [hRs]; omega⟩ (fun v9 σ9 Y9 hp9 => ?_)
  obtain ⟨e7, e8, e9⟩ := hp9
  rw [e7, e8, e9]
  refine x_aload_n C dL_load_5 rfl 0 rfl ?_
  obtain ⟨q2, hk2, h⟩ := Option.bind_eq_some_iff.mp h
  refine x_callSW C (As := [.ref (B + oHB)]) (rest := []) (cells2 := ((0 + 42) + 1)) (slots2 := ((0 + 232) + 6)) (lw_g_mk tw_566 rfl) (okL_loads l hlf cy D B ek q1 Y _ hk2) rfl rfl (by rw [hR9]; decide) (lw_g_mk tw_567 rfl) (lw_g_mk tw_0 rfl) (by decide) rfl (lw_g_mk tw_565 rfl) rfl (Nat.le_of_ble_eq_true rfl) dL_load_6 ⟨by rw [hRc]; omega, by rw [hRs]; omega⟩ rfl rfl ?_
  cases h
  exact hret _ _ _ _ dL_load_9 rfl (by omega) (by omega)
def fL_roomsOf (xs : Nat → Int32) (L : Nat) : Option (Int32) := ((fL_cell xs L (0 : Int32)).bind fun q1 => ((fL_part q1 (4 : Int32)).bind fun q2 => (some ((1 : Int32) + q2))))
set_option maxHeartbeats 4000000 in
set_option maxRecDepth 100000 in
theorem okL_roomsOf (l : Launch) (cy : Nat → ClassId) (D : va_G) (B : Nat) (ek : EK) (xs : Nat → Int32) (L : Nat) (hxs : xs = sX ek) (hLs : L = sL ek) (σ : Mem) (Y : va_W) (res : Int32) (h : fL_roomsOf xs L = some res) : CT l cy D B ek yL_roomsOf cL_roomsOf 1 (some .int) ({ frames := 1, cells := 0, slots := 0, locals := 21 } : Room) [.ref (sA ek)] σ Y (some (.int res)) σ Y := by
  refine met_X (own := "HostelBedsLaw") (by decide) rfl (Nat.le_of_ble_eq_true rfl) ?_
  intro p e s m args below meth c C hrT hlk
  have hret : ∀ (pc9 : Nat) (lcs9 : List (Nat × Value)), decode cL_roomsOf pc9 = .ok (.ireturn, 1) → narrow .int (.int res) = .int res → X p l e ({ frames := 1, cells := 0, slots := 0, locals := 21 } : Room) s m args below meth c 1 cy D B 0 0 (MQ below (QR cy D B (some (.int res)) σ Y) args s 0 0 (aB B)) pc9 lcs9 [.int res] σ Y := fun _ _ hd hn => x_zret C hrT hlk hn hd
  generalize (MQ below (QR cy D B (some (.int res)) σ Y) args s 0 0 (aB B)) = Q at hret ⊢
  obtain ⟨R, hR9⟩ : ∃ R : Room, R = ({ frames := 1, cells := 0, slots := 0, locals := 21 } : Room) := ⟨_, rfl⟩
  rw [← hR9] at hret ⊢
  have hRc : R.cells = 0 := by rw [hR9]
  have hRs : R.slots = 0 := by rw [hR9]
  unfold fL_roomsOf at h
  show X p l e R s m args below meth c 1 cy D B 0 0 Q 0 [(0, .ref (sA ek))] [] σ Y
  refine x_iconst C (v := 1) dL_roomsOf_0 (by decide) ?_
  refine x_aload_n C dL_roomsOf_1 rfl 0 rfl ?_
  refine x_iconst C (v := 0) dL_roomsOf_2 (by decide) ?_
  obtain ⟨q1, hk1, h⟩ := Option.bind_eq_some_iff.mp h
  refine x_callS C (As := [.ref (sA ek), .int (0 : Int32)]) (rest := [.int (1 : Int32)]) (lw_g_mk tw_476 rfl) (okL_cell l cy D B ek xs L hxs hLs (0 : Int32) σ Y _ hk1) rfl rfl (by rw [hR9]; decide) (lw_g_mk tw_477 rfl) (lw_g_mk tw_0 rfl) (by decide) rfl (lw_g_mk tw_475 rfl) rfl (Nat.le_of_ble_eq_true rfl) dL_roomsOf_3 ⟨by rw [hRc]; omega, by rw [hRs]; omega⟩ ?_
  refine x_iconst C (v := 4) dL_roomsOf_6 (by decide) ?_
  obtain ⟨q2, hk2, h⟩ := Option.bind_eq_some_iff.mp h
  refine x_callS C (As := [.int q1, .int (4 : Int32)]) (rest := [.int (1 : Int32)]) (lw_g_mk tw_479 rfl) (okL_part l cy D B ek q1 (4 : Int32) σ Y _ hk2) rfl rfl (by rw [hR9]; decide) (lw_g_mk tw_480 rfl) (lw_g_mk tw_0 rfl) (by decide) rfl (lw_g_mk tw_478 rfl) rfl (Nat.le_of_ble_eq_true rfl) dL_roomsOf_7 ⟨by rw [hRc]; omega, by rw [hRs]; omega⟩ ?_
  refine x_iadd C dL_roomsOf_10 ?_
  cases h
  exact hret _ _ dL_roomsOf_11 rfl
def fL_setting (xs : Nat → Int32) (L : Nat) (p2 : Int32) : Option (Int32) := ((fL_cell xs L (0 : Int32)).bind fun q1 => (if ¬ p2 = 0 then (if ¬ p2 = (1 : Int32) then (if ¬ p2 = (2 : Int32) then ((fL_part (q1 >>> ((21 : Int32) &&& 31)) (51 : Int32)).bind fun q2 => (some q2)) else ((fL_part (q1 >>> ((17 : Int32) &&& 31)) (10 : Int32)).bind fun q3 => (some ((2 : Int32) + q3)))) else ((fL_part (q1 >>> ((9 : Int32) &&& 31)) (200 : Int32)).bind fun q4 => (some q4))) else ((fL_part (q1 >>> ((3 : Int32) &&& 31)) (40 : Int32)).bind fun q5 => (some q5))))
set_option maxHeartbeats 4000000 in
set_option maxRecDepth 100000 in
theorem okL_setting (l : Launch) (cy : Nat → ClassId) (D : va_G) (B : Nat) (ek : EK) (xs : Nat → Int32) (L : Nat) (hxs : xs = sX ek) (hLs : L = sL ek) (p2 : Int32) (σ : Mem) (Y : va_W) (res : Int32) (h : fL_setting xs L p2 = some res) : CT l cy D B ek yL_setting cL_setting 3 (some .int) ({ frames := 1, cells := 0, slots := 0, locals := 21 } : Room) [.ref (sA ek), .int p2] σ Y (some (.int res)) σ Y := by
  refine met_X (own := "HostelBedsLaw") (by decide) rfl (Nat.le_of_ble_eq_true rfl) ?_
  intro p e s m args below meth c C hrT hlk
  have hret : ∀ (pc9 : Nat) (lcs9 : List (Nat × Value)), decode cL_setting pc9 = .ok (.ireturn, 1) → narrow .int (.int res) = .int res → X p l e ({ frames := 1, cells := 0, slots := 0, locals := 21 } : Room) s m args below meth c 3 cy D B 0 0 (MQ below (QR cy D B (some (.int res)) σ Y) args s 0 0 (aB B)) pc9 lcs9 [.int res] σ Y := fun _ _ hd hn => x_zret C hrT hlk hn hd
  generalize (MQ below (QR cy D B (some (.int res)) σ Y) args s 0 0 (aB B)) = Q at hret ⊢
  obtain ⟨R, hR9⟩ : ∃ R : Room, R = ({ frames := 1, cells := 0, slots := 0, locals := 21 } : Room) := ⟨_, rfl⟩
  rw [← hR9] at hret ⊢
  have hRc : R.cells = 0 := by rw [hR9]
  have hRs : R.slots = 0 := by rw [hR9]
  unfold fL_setting at h
  show X p l e R s m args below meth c 3 cy D B 0 0 Q 0 [(0, .ref (sA ek)), (1, .int p2)] [] σ Y
  refine x_aload_n C dL_setting_0 rfl 0 rfl ?_
  refine x_iconst C (v := 0) dL_setting_1 (by decide) ?_
  obtain ⟨q1, hk1, h⟩ := Option.bind_eq_some_iff.mp h
  refine x_callS C (As := [.ref (sA ek), .int (0 : Int32)]) (rest := []) (lw_g_mk tw_476 rfl) (okL_cell l cy D B ek xs L hxs hLs (0 : Int32) σ Y _ hk1) rfl rfl (by rw [hR9]; decide) (lw_g_mk tw_477 rfl) (lw_g_mk tw_0 rfl) (by decide) rfl (lw_g_mk tw_475 rfl) rfl (Nat.le_of_ble_eq_true rfl) dL_setting_2 ⟨by rw [hRc]; omega, by rw [hRs]; omega⟩ ?_
  refine x_istore_n C [(2, .int q1), (0, .ref (sA ek)), (1, .int p2)] dL_setting_5 rfl (by decide) rfl ?_
  refine x_iload_n C dL_setting_6 rfl 2 rfl ?_
  refine x_if_ne C (tgt := 21) dL_setting_7 (by decide) (fun hc2 => ?_) (fun hc2 => ?_)
  · rw [if_pos hc2] at h
    refine x_iload_n C dL_setting_21 rfl 2 rfl ?_
    refine x_iconst C (v := 1) dL_setting_22 (by decide) ?_
    refine x_icmp_ne C (tgt := 39) dL_setting_23 (by decide) (fun hc3 => ?_) (fun hc3 => ?_)
    · rw [if_pos hc3] at h
      refine x_iload_n C dL_setting_39 rfl 2 rfl ?_
      refine x_iconst C (v := 2) dL_setting_40 (by decide) ?_
      refine x_icmp_ne C (tgt := 58) dL_setting_41 (by decide) (fun hc4 => ?_) (fun hc4 => ?_)
      · rw [if_pos hc4] at h
        refine x_iload_n C dL_setting_58 rfl 0 rfl ?_
        refine x_bipush C (v := 21) dL_setting_59 (by decide) ?_
        refine x_ishr C dL_setting_61 ?_
        refine x_bipush C (v := 51) dL_setting_62 (by decide) ?_
        obtain ⟨q2, hk5, h⟩ := Option.bind_eq_some_iff.mp h
        refine x_callS C (As := [.int (q1 >>> ((21 : Int32) &&& 31)), .int (51 : Int32)]) (rest := []) (lw_g_mk tw_479 rfl) (okL_part l cy D B ek (q1 >>> ((21 : Int32) &&& 31)) (51 : Int32) σ Y _ hk5) rfl rfl (by rw [hR9]; decide) (lw_g_mk tw_480 rfl) (lw_g_mk tw_0 rfl) (by decide) rfl (lw_g_mk tw_478 rfl) rfl (Nat.le_of_ble_eq_true rfl) dL_setting_64 ⟨by rw [hRc]; omega, by rw [hRs]; omega⟩ ?_
        cases h
        exact hret _ _ dL_setting_67 rfl
      · rw [if_neg hc4] at h
        refine x_iconst C (v := 2) dL_setting_44 (by decide) ?_
        refine x_iload_n C dL_setting_45 rfl 0 rfl ?_
        refine x_bipush C (v := 17) dL_setting_46 (by decide) ?_
        refine x_ishr C dL_setting_48 ?_
        refine x_bipush C (v := 10) dL_setting_49 (by decide) ?_
        obtain ⟨q3, hk6, h⟩ := Option.bind_eq_some_iff.mp h
        refine x_callS C (As := [.int (q1 >>> ((17 : Int32) &&& 31)), .int (10 : Int32)]) (rest := [.int (2 : Int32)]) (lw_g_mk tw_479 rfl) (okL_part l cy D B ek (q1 >>> ((17 : Int32) &&& 31)) (10 : Int32) σ Y _ hk6) rfl rfl (by rw [hR9]; decide) (lw_g_mk tw_480 rfl) (lw_g_mk tw_0 rfl) (by decide) rfl (lw_g_mk tw_478 rfl) rfl (Nat.le_of_ble_eq_true rfl) dL_setting_51 ⟨by rw [hRc]; omega, by rw [hRs]; omega⟩ ?_
        refine x_iadd C dL_setting_54 ?_
        refine x_goto C (tgt := 67) dL_setting_55 (by decide) ?_
        cases h
        exact hret _ _ dL_setting_67 rfl
    · rw [if_neg hc3] at h
      refine x_iload_n C dL_setting_26 rfl 0 rfl ?_
      refine x_bipush C (v := 9) dL_setting_27 (by decide) ?_
      refine x_ishr C dL_setting_29 ?_
      refine x_sipush C (v := 200) dL_setting_30 (by decide) ?_
      obtain ⟨q4, hk7, h⟩ := Option.bind_eq_some_iff.mp h
      refine x_callS C (As := [.int (q1 >>> ((9 : Int32) &&& 31)), .int (200 : Int32)]) (rest := []) (lw_g_mk tw_479 rfl) (okL_part l cy D B ek (q1 >>> ((9 : Int32) &&& 31)) (200 : Int32) σ Y _ hk7) rfl rfl (by rw [hR9]; decide) (lw_g_mk tw_480 rfl) (lw_g_mk tw_0 rfl) (by decide) rfl (lw_g_mk tw_478 rfl) rfl (Nat.le_of_ble_eq_true rfl) dL_setting_33 ⟨by rw [hRc]; omega, by rw [hRs]; omega⟩ ?_
      refine x_goto C (tgt := 67) dL_setting_36 (by decide) ?_
      cases h
      exact hret _ _ dL_setting_67 rfl
  · rw [if_neg hc2] at h
    refine x_iload_n C dL_setting_10 rfl 0 rfl ?_
    refine x_iconst C (v := 3) dL_setting_11 (by decide) ?_
    refine x_ishr C dL_setting_12 ?_
    refine x_bipush C (v := 40) dL_setting_13 (by decide) ?_
    obtain ⟨q5, hk8, h⟩ := Option.bind_eq_some_iff.mp h
    refine x_callS C (As := [.int (q1 >>> ((3 : Int32) &&& 31)), .int (40 : Int32)]) (rest := []) (lw_g_mk tw_479 rfl) (okL_part l cy D B ek (q1 >>> ((3 : Int32) &&& 31)) (40 : Int32) σ Y _ hk8) rfl rfl (by rw [hR9]; decide) (lw_g_mk tw_480 rfl) (lw_g_mk tw_0 rfl) (by decide) rfl (lw_g_mk tw_478 rfl) rfl (Nat.le_of_ble_eq_true rfl) dL_setting_15 ⟨by rw [hRc]; omega, by rw [hRs]; omega⟩ ?_
    refine x_goto C (tgt := 67) dL_setting_18 (by decide) ?_
    cases h
    exact hret _ _ dL_setting_67 rfl
def fL_room (xs : Nat → Int32) (L : Nat) (p2 : Int32) (p3 : Int32) : Option (Int32) := ((fL_cell xs L ((1 : Int32) + p2)).bind fun q1 => (if ¬ p3 = 0 then (if ¬ p3 = (1 : Int32) then (if ¬ p3 = (2 : Int32) then ((fL_part (q1 >>> ((8 : Int32) &&& 31)) (60 : Int32)).bind fun q2 => (some ((5 : Int32) + q2))) else ((fL_part (q1 >>> ((5 : Int32) &&& 31)) (3 : Int32)).bind fun q3 => (some ((9 : Int32) * q3)))) else ((fL_part (q1 >>> ((2 : Int32) &&& 31)) (5 : Int32)).bind fun q4 => (some ((1 : Int32) + q4)))) else ((fL_part q1 (3 : Int32)).bind fun q5 => (some q5))))
set_option maxHeartbeats 4000000 in
set_option maxRecDepth 100000 in
theorem okL_room (l : Launch) (cy : Nat → ClassId) (D : va_G) (B : Nat) (ek : EK) (xs : Nat → Int32) (L : Nat) (hxs : xs = sX ek) (hLs : L = sL ek) (p2 : Int32) (p3 : Int32) (σ : Mem) (Y : va_W) (res : Int32) (h : fL_room xs L p2 p3 = some res) : CT l cy D B ek yL_room cL_room 4 (some .int) ({ frames := 1, cells := 0, slots := 0, locals := 21 } : Room) [.ref (sA ek), .int p2, .int p3] σ Y (some (.int res)) σ Y := by
  refine met_X (own := "HostelBedsLaw") (by decide) rfl (Nat.le_of_ble_eq_true rfl) ?_
  intro p e s m args below meth c C hrT hlk
  have hret : ∀ (pc9 : Nat) (lcs9 : List (Nat × Value)), decode cL_room pc9 = .ok (.ireturn, 1) → narrow .int (.int res) = .int res → X p l e ({ frames := 1, cells := 0, slots := 0, locals := 21 } : Room) s m args below meth c 4 cy D B 0 0 (MQ below (QR cy D B (some (.int res)) σ Y) args s 0 0 (aB B)) pc9 lcs9 [.int res] σ Y := fun _ _ hd hn => x_zret C hrT hlk hn hd
  generalize (MQ below (QR cy D B (some (.int res)) σ Y) args s 0 0 (aB B)) = Q at hret ⊢
  obtain ⟨R, hR9⟩ : ∃ R : Room, R = ({ frames := 1, cells := 0, slots := 0, locals := 21 } : Room) := ⟨_, rfl⟩
  rw [← hR9] at hret ⊢
  have hRc : R.cells = 0 := by rw [hR9]
  have hRs : R.slots = 0 := by rw [hR9]
  unfold fL_room at h
  show X p l e R s m args below meth c 4 cy D B 0 0 Q 0 [(0, .ref (sA ek)), (1, .int p2), (2, .int p3)] [] σ Y
  refine x_aload_n C dL_room_0 rfl 0 rfl ?_
  refine x_iconst C (v := 1) dL_room_1 (by decide) ?_
  refine x_iload_n C dL_room_2 rfl 1 rfl ?_
  refine x_iadd C dL_room_3 ?_
  obtain ⟨q1, hk1, h⟩ := Option.bind_eq_some_iff.mp h
  refine x_callS C (As := [.ref (sA ek), .int ((1 : Int32) + p2)]) (rest := []) (lw_g_mk tw_476 rfl) (okL_cell l cy D B ek xs L hxs hLs ((1 : Int32) + p2) σ Y _ hk1) rfl rfl (by rw [hR9]; decide) (lw_g_mk tw_477 rfl) (lw_g_mk tw_0 rfl) (by decide) rfl (lw_g_mk tw_475 rfl) rfl (Nat.le_of_ble_eq_true rfl) dL_room_4 ⟨by rw [hRc]; omega, by rw [hRs]; omega⟩ ?_
  refine x_istore_n C [(3, .int q1), (0, .ref (sA ek)), (1, .int p2), (2, .int p3)] dL_room_7 rfl (by decide) rfl ?_
  refine x_iload_n C dL_room_8 rfl 3 rfl ?_
  refine x_if_ne C (tgt := 20) dL_room_9 (by decide) (fun hc2 => ?_) (fun hc2 => ?_)
  · rw [if_pos hc2] at h
    refine x_iload_n C dL_room_20 rfl 3 rfl ?_
    refine x_iconst C (v := 1) dL_room_21 (by decide) ?_
    refine x_icmp_ne C (tgt := 37) dL_room_22 (by decide) (fun hc3 => ?_) (fun hc3 => ?_)
    · rw [if_pos hc3] at h
      refine x_iload_n C dL_room_37 rfl 3 rfl ?_
      refine x_iconst C (v := 2) dL_room_38 (by decide) ?_
      refine x_icmp_ne C (tgt := 55) dL_room_39 (by decide) (fun hc4 => ?_) (fun hc4 => ?_)
      · rw [if_pos hc4] at h
        refine x_iconst C (v := 5) dL_room_55 (by decide) ?_
        refine x_iload_n C dL_room_56 rfl 0 rfl ?_
        refine x_bipush C (v := 8) dL_room_57 (by decide) ?_
        refine x_ishr C dL_room_59 ?_
        refine x_bipush C (v := 60) dL_room_60 (by decide) ?_
        obtain ⟨q2, hk5, h⟩ := Option.bind_eq_some_iff.mp h
        refine x_callS C (As := [.int (q1 >>> ((8 : Int32) &&& 31)), .int (60 : Int32)]) (rest := [.int (5 : Int32)]) (lw_g_mk tw_479 rfl) (okL_part l cy D B ek (q1 >>> ((8 : Int32) &&& 31)) (60 : Int32) σ Y _ hk5) rfl rfl (by rw [hR9]; decide) (lw_g_mk tw_480 rfl) (lw_g_mk tw_0 rfl) (by decide) rfl (lw_g_mk tw_478 rfl) rfl (Nat.le_of_ble_eq_true rfl) dL_room_62 ⟨by rw [hRc]; omega, by rw [hRs]; omega⟩ ?_
        refine x_iadd C dL_room_65 ?_
        cases h
        exact hret _ _ dL_room_66 rfl
      · rw [if_neg hc4] at h
        refine x_bipush C (v := 9) dL_room_42 (by decide) ?_
        refine x_iload_n C dL_room_44 rfl 0 rfl ?_
        refine x_iconst C (v := 5) dL_room_45 (by decide) ?_
        refine x_ishr C dL_room_46 ?_
        refine x_iconst C (v := 3) dL_room_47 (by decide) ?_
        obtain ⟨q3, hk6, h⟩ := Option.bind_eq_some_iff.mp h
        refine x_callS C (As := [.int (q1 >>> ((5 : Int32) &&& 31)), .int (3 : Int32)]) (rest := [.int (9 : Int32)]) (lw_g_mk tw_479 rfl) (okL_part l cy D B ek (q1 >>> ((5 : Int32) &&& 31)) (3 : Int32) σ Y _ hk6) rfl rfl (by rw [hR9]; decide) (lw_g_mk tw_480 rfl) (lw_g_mk tw_0 rfl) (by decide) rfl (lw_g_mk tw_478 rfl) rfl (Nat.le_of_ble_eq_true rfl) dL_room_48 ⟨by rw [hRc]; omega, by rw [hRs]; omega⟩ ?_
        refine x_imul C dL_room_51 ?_
        refine x_goto C (tgt := 66) dL_room_52 (by decide) ?_
        cases h
        exact hret _ _ dL_room_66 rfl
    · rw [if_neg hc3] at h
      refine x_iconst C (v := 1) dL_room_25 (by decide) ?_
      refine x_iload_n C dL_room_26 rfl 0 rfl ?_
      refine x_iconst C (v := 2) dL_room_27 (by decide) ?_
      refine x_ishr C dL_room_28 ?_
      refine x_iconst C (v := 5) dL_room_29 (by decide) ?_
      obtain ⟨q4, hk7, h⟩ := Option.bind_eq_some_iff.mp h
      refine x_callS C (As := [.int (q1 >>> ((2 : Int32) &&& 31)), .int (5 : Int32)]) (rest := [.int (1 : Int32)]) (lw_g_mk tw_479 rfl) (okL_part l cy D B ek (q1 >>> ((2 : Int32) &&& 31)) (5 : Int32) σ Y _ hk7) rfl rfl (by rw [hR9]; decide) (lw_g_mk tw_480 rfl) (lw_g_mk tw_0 rfl) (by decide) rfl (lw_g_mk tw_478 rfl) rfl (Nat.le_of_ble_eq_true rfl) dL_room_30 ⟨by rw [hRc]; omega, by rw [hRs]; omega⟩ ?_
      refine x_iadd C dL_room_33 ?_
      refine x_goto C (tgt := 66) dL_room_34 (by decide) ?_
      cases h
      exact hret _ _ dL_room_66 rfl
  · rw [if_neg hc2] at h
    refine x_iload_n C dL_room_12 rfl 0 rfl ?_
    refine x_iconst C (v := 3) dL_room_13 (by decide) ?_
    obtain ⟨q5, hk8, h⟩ := Option.bind_eq_some_iff.mp h
    refine x_callS C (As := [.int q1, .int (3 : Int32)]) (rest := []) (lw_g_mk tw_479 rfl) (okL_part l cy D B ek q1 (3 : Int32) σ Y _ hk8) rfl rfl (by rw [hR9]; decide) (lw_g_mk tw_480 rfl) (lw_g_mk tw_0 rfl) (by decide) rfl (lw_g_mk tw_478 rfl) rfl (Nat.le_of_ble_eq_true rfl) dL_room_14 ⟨by rw [hRc]; omega, by rw [hRs]; omega⟩ ?_
    refine x_goto C (tgt := 66) dL_room_17 (by decide) ?_
    cases h
    exact hret _ _ dL_room_66 rfl
def fL_bookingsOf (xs : Nat → Int32) (L : Nat) : Option (Int32) := ((fL_cell xs L (5 : Int32)).bind fun q1 => ((fL_part q1 (8 : Int32)).bind fun q2 => (some q2)))
set_option maxHeartbeats 4000000 in
set_option maxRecDepth 100000 in
theorem okL_bookingsOf (l : Launch) (cy : Nat → ClassId) (D : va_G) (B : Nat) (ek : EK) (xs : Nat → Int32) (L : Nat) (hxs : xs = sX ek) (hLs : L = sL ek) (σ : Mem) (Y : va_W) (res : Int32) (h : fL_bookingsOf xs L = some res) : CT l cy D B ek yL_bookingsOf cL_bookingsOf 1 (some .int) ({ frames := 1, cells := 0, slots := 0, locals := 21 } : Room) [.ref (sA ek)] σ Y (some (.int res)) σ Y := by
  refine met_X (own := "HostelBedsLaw") (by decide) rfl (Nat.le_of_ble_eq_true rfl) ?_
  intro p e s m args below meth c C hrT hlk
  have hret : ∀ (pc9 : Nat) (lcs9 : List (Nat × Value)), decode cL_bookingsOf pc9 = .ok (.ireturn, 1) → narrow .int (.int res) = .int res → X p l e ({ frames := 1, cells := 0, slots := 0, locals := 21 } : Room) s m args below meth c 1 cy D B 0 0 (MQ below (QR cy D B (some (.int res)) σ Y) args s 0 0 (aB B)) pc9 lcs9 [.int res] σ Y := fun _ _ hd hn => x_zret C hrT hlk hn hd
  generalize (MQ below (QR cy D B (some (.int res)) σ Y) args s 0 0 (aB B)) = Q at hret ⊢
  obtain ⟨R, hR9⟩ : ∃ R : Room, R = ({ frames := 1, cells := 0, slots := 0, locals := 21 } : Room) := ⟨_, rfl⟩
  rw [← hR9] at hret ⊢
  have hRc : R.cells = 0 := by rw [hR9]
  have hRs : R.slots = 0 := by rw [hR9]
  unfold fL_bookingsOf at h
  show X p l e R s m args below meth c 1 cy D B 0 0 Q 0 [(0, .ref (sA ek))] [] σ Y
  refine x_aload_n C dL_bookingsOf_0 rfl 0 rfl ?_
  refine x_iconst C (v := 5) dL_bookingsOf_1 (by decide) ?_
  obtain ⟨q1, hk1, h⟩ := Option.bind_eq_some_iff.mp h
  refine x_callS C (As := [.ref (sA ek), .int (5 : Int32)]) (rest := []) (lw_g_mk tw_476 rfl) (okL_cell l cy D B ek xs L hxs hLs (5 : Int32) σ Y _ hk1) rfl rfl (by rw [hR9]; decide) (lw_g_mk tw_477 rfl) (lw_g_mk tw_0 rfl) (by decide) rfl (lw_g_mk tw_475 rfl) rfl (Nat.le_of_ble_eq_true rfl) dL_bookingsOf_2 ⟨by rw [hRc]; omega, by rw [hRs]; omega⟩ ?_
  refine x_bipush C (v := 8) dL_bookingsOf_5 (by decide) ?_
  obtain ⟨q2, hk2, h⟩ := Option.bind_eq_some_iff.mp h
  refine x_callS C (As := [.int q1, .int (8 : Int32)]) (rest := []) (lw_g_mk tw_479 rfl) (okL_part l cy D B ek q1 (8 : Int32) σ Y _ hk2) rfl rfl (by rw [hR9]; decide) (lw_g_mk tw_480 rfl) (lw_g_mk tw_0 rfl) (by decide) rfl (lw_g_mk tw_478 rfl) rfl (Nat.le_of_ble_eq_true rfl) dL_bookingsOf_7 ⟨by rw [hRc]; omega, by rw [hRs]; omega⟩ ?_
  cases h
  exact hret _ _ dL_bookingsOf_10 rfl
def fL_booking (xs : Nat → Int32) (L : Nat) (p2 : Int32) (p3 : Int32) : Option (Int32) := ((fL_cell xs L ((6 : Int32) + p2)).bind fun q1 => ((fL_part q1 (30 : Int32)).bind fun q2 => ((fL_part (q1 >>> ((8 : Int32) &&& 31)) (4 : Int32)).bind fun q3 => (if p3 = (0 : Int32) then (some q2) else (if p3 = (1 : Int32) then ((fL_part (q1 >>> ((5 : Int32) &&& 31)) (if ((30 : Int32) - q2) < (8 : Int32) then ((30 : Int32) - q2) else (8 : Int32))).bind fun q4 => (some ((1 : Int32) + q4))) else (if p3 = (2 : Int32) then (some q3) else (if p3 = (3 : Int32) then (if ¬ q3 = 0 then ((fL_part (q1 >>> ((11 : Int32) &&& 31)) (4 : Int32)).bind fun q5 => (some q5)) else ((fL_part (q1 >>> ((11 : Int32) &&& 31)) (4 : Int32)).bind fun q6 => (some ((1 : Int32) + q6)))) else (if p3 = (4 : Int32) then ((fL_part (q1 >>> ((14 : Int32) &&& 31)) (30 : Int32)).bind fun q7 => (some q7)) else (if p3 = (5 : Int32) then ((fL_part (q1 >>> ((19 : Int32) &&& 31)) (101 : Int32)).bind fun q8 => (some q8)) else ((fL_part (q1 >>> ((26 : Int32) &&& 31)) (4 : Int32)).bind fun q9 => (if ¬ q9 = 0 then (some ((0 : Int32))) else (some ((1 : Int32))))))))))))))
set_option maxHeartbeats 4000000 in
set_option maxRecDepth 100000 in
theorem okL_booking (l : Launch) (cy : Nat → ClassId) (D : va_G) (B : Nat) (ek : EK) (xs : Nat → Int32) (L : Nat) (hxs : xs = sX ek) (hLs : L = sL ek) (p2 : Int32) (p3 : Int32) (σ : Mem) (Y : va_W) (res : Int32) (h : fL_booking xs L p2 p3 = some res) : CT l cy D B ek yL_booking cL_booking 6 (some .int) ({ frames := 1, cells := 0, slots := 0, locals := 21 } : Room) [.ref (sA ek), .int p2, .int p3] σ Y (some (.int res)) σ Y := by
  refine met_X (own := "HostelBedsLaw") (by decide) rfl (Nat.le_of_ble_eq_true rfl) ?_
  intro p e s m args below meth c C hrT hlk
  have hret : ∀ (pc9 : Nat) (lcs9 : List (Nat × Value)), decode cL_booking pc9 = .ok (.ireturn, 1) → narrow .int (.int res) = .int res → X p l e ({ frames := 1, cells := 0, slots := 0, locals := 21 } : Room) s m args below meth c 6 cy D B 0 0 (MQ below (QR cy D B (some (.int res)) σ Y) args s 0 0 (aB B)) pc9 lcs9 [.int res] σ Y := fun _ _ hd hn => x_zret C hrT hlk hn hd
  generalize (MQ below (QR cy D B (some (.int res)) σ Y) args s 0 0 (aB B)) = Q at hret ⊢
  obtain ⟨R, hR9⟩ : ∃ R : Room, R = ({ frames := 1, cells := 0, slots := 0, locals := 21 } : Room) := ⟨_, rfl⟩
  rw [← hR9] at hret ⊢
  have hRc : R.cells = 0 := by rw [hR9]
  have hRs : R.slots = 0 := by rw [hR9]
  unfold fL_booking at h
  show X p l e R s m args below meth c 6 cy D B 0 0 Q 0 [(0, .ref (sA ek)), (1, .int p2), (2, .int p3)] [] σ Y
  refine x_aload_n C dL_booking_0 rfl 0 rfl ?_
  refine x_bipush C (v := 6) dL_booking_1 (by decide) ?_
  refine x_iload_n C dL_booking_3 rfl 1 rfl ?_
  refine x_iadd C dL_booking_4 ?_
  obtain ⟨q1, hk1, h⟩ := Option.bind_eq_some_iff.mp h
  refine x_callS C (As := [.ref (sA ek), .int ((6 : Int32) + p2)]) (rest := []) (lw_g_mk tw_476 rfl) (okL_cell l cy D B ek xs L hxs hLs ((6 : Int32) + p2) σ Y _ hk1) rfl rfl (by rw [hR9]; decide) (lw_g_mk tw_477 rfl) (lw_g_mk tw_0 rfl) (by decide) rfl (lw_g_mk tw_475 rfl) rfl (Nat.le_of_ble_eq_true rfl) dL_booking_5 ⟨by rw [hRc]; omega, by rw [hRs]; omega⟩ ?_
  refine x_istore_n C [(3, .int q1), (0, .ref (sA ek)), (1, .int p2), (2, .int p3)] dL_booking_8 rfl (by decide) rfl ?_
  refine x_iload_n C dL_booking_9 rfl 0 rfl ?_
  refine x_bipush C (v := 30) dL_booking_10 (by decide) ?_
  obtain ⟨q2, hk2, h⟩ := Option.bind_eq_some_iff.mp h
  refine x_callS C (As := [.int q1, .int (30 : Int32)]) (rest := []) (lw_g_mk tw_479 rfl) (okL_part l cy D B ek q1 (30 : Int32) σ Y _ hk2) rfl rfl (by rw [hR9]; decide) (lw_g_mk tw_480 rfl) (lw_g_mk tw_0 rfl) (by decide) rfl (lw_g_mk tw_478 rfl) rfl (Nat.le_of_ble_eq_true rfl) dL_booking_12 ⟨by rw [hRc]; omega, by rw [hRs]; omega⟩ ?_
  refine x_istore C [(4, .int q2), (3, .int q1), (0, .ref (sA ek)), (1, .int p2), (2, .int p3)] dL_booking_15 (by decide) rfl ?_
  refine x_iload_n C dL_booking_17 rfl 1 rfl ?_
  refine x_bipush C (v := 8) dL_booking_18 (by decide) ?_
  refine x_ishr C dL_booking_20 ?_
  refine x_iconst C (v := 4) dL_booking_21 (by decide) ?_
  obtain ⟨q3, hk3, h⟩ := Option.bind_eq_some_iff.mp h
  refine x_callS C (As := [.int (q1 >>> ((8 : Int32) &&& 31)), .int (4 : Int32)]) (rest := []) (lw_g_mk tw_479 rfl) (okL_part l cy D B ek (q1 >>> ((8 : Int32) &&& 31)) (4 : Int32) σ Y _ hk3) rfl rfl (by rw [hR9]; decide) (lw_g_mk tw_480 rfl) (lw_g_mk tw_0 rfl) (by decide) rfl (lw_g_mk tw_478 rfl) rfl (Nat.le_of_ble_eq_true rfl) dL_booking_22 ⟨by rw [hRc]; omega, by rw [hRs]; omega⟩ ?_
  refine x_istore C [(5, .int q3), (4, .int q2), (3, .int q1), (0, .ref (sA ek)), (1, .int p2), (2, .int p3)] dL_booking_25 (by decide) rfl ?_
  refine x_iload_n C dL_booking_27 rfl 5 rfl ?_
  by_cases hc4 : p3 = 0
  · rw [if_pos hc4] at h
    refine x_tableIn C (tgt := 68) dL_booking_28 (by rw [hc4]; decide) (by rw [hc4]; decide) (by first | (rw [hc4]; done) | (rw [hc4]; rfl)) (by decide) ?_
    refine x_iload C dL_booking_68 1 rfl ?_
    cases h
    exact hret _ _ dL_booking_70 rfl
  rw [if_neg hc4] at h
  by_cases hc5 : p3 = 1
  · rw [if_pos hc5] at h
    refine x_tableIn C (tgt := 71) dL_booking_28 (by rw [hc5]; decide) (by rw [hc5]; decide) (by first | (rw [hc5]; done) | (rw [hc5]; rfl)) (by decide) ?_
    refine x_iconst C (v := 1) dL_booking_71 (by decide) ?_
    refine x_iload_n C dL_booking_72 rfl 2 rfl ?_
    refine x_iconst C (v := 5) dL_booking_73 (by decide) ?_
    refine x_ishr C dL_booking_74 ?_
    refine x_bipush C (v := 8) dL_booking_75 (by decide) ?_
    refine x_bipush C (v := 30) dL_booking_77 (by decide) ?_
    refine x_iload C dL_booking_79 1 rfl ?_
    refine x_isub C dL_booking_81 ?_
    refine x_mmin C (lw_g_mk tw_772 rfl) (lw_g_mk tw_663 rfl) (lw_g_mk tw_16 rfl) (lw_g_mk tw_664 rfl) (by rw [hR9]; decide) (by rw [hR9]; exact Nat.le_of_ble_eq_true rfl) (by rw [hR9]; decide) dL_booking_82 ?_
    obtain ⟨q4, hk6, h⟩ := Option.bind_eq_some_iff.mp h
    refine x_callS C (As := [.int (q1 >>> ((5 : Int32) &&& 31)), .int (if ((30 : Int32) - q2) < (8 : Int32) then ((30 : Int32) - q2) else (8 : Int32))]) (rest := [.int (1 : Int32)]) (lw_g_mk tw_479 rfl) (okL_part l cy D B ek (q1 >>> ((5 : Int32) &&& 31)) (if ((30 : Int32) - q2) < (8 : Int32) then ((30 : Int32) - q2) else (8 : Int32)) σ Y _ hk6) rfl rfl (by rw [hR9]; decide) (lw_g_mk tw_480 rfl) (lw_g_mk tw_0 rfl) (by decide) rfl (lw_g_mk tw_478 rfl) rfl (Nat.le_of_ble_eq_true rfl) dL_booking_85 ⟨by rw [hRc]; omega, by rw [hRs]; omega⟩ ?_
    refine x_iadd C dL_booking_88 ?_
    cases h
    exact hret _ _ dL_booking_89 rfl
  rw [if_neg hc5] at h
  by_cases hc7 : p3 = 2
  · rw [if_pos hc7] at h
    refine x_tableIn C (tgt := 90) dL_booking_28 (by rw [hc7]; decide) (by rw [hc7]; decide) (by first | (rw [hc7]; done) | (rw [hc7]; rfl)) (by decide) ?_
    refine x_iload C dL_booking_90 0 rfl ?_
    cases h
    exact hret _ _ dL_booking_92 rfl
  rw [if_neg hc7] at h
  by_cases hc8 : p3 = 3
  · rw [if_pos hc8] at h
    refine x_tableIn C (tgt := 93) dL_booking_28 (by rw [hc8]; decide) (by rw [hc8]; decide) (by first | (rw [hc8]; done) | (rw [hc8]; rfl)) (by decide) ?_
    refine x_iload C dL_booking_93 0 rfl ?_
    refine x_if_ne C (tgt := 111) dL_booking_95 (by decide) (fun hc9 => ?_) (fun hc9 => ?_)
    · rw [if_pos hc9] at h
      refine x_iload_n C dL_booking_111 rfl 2 rfl ?_
      refine x_bipush C (v := 11) dL_booking_112 (by decide) ?_
      refine x_ishr C dL_booking_114 ?_
      refine x_iconst C (v := 4) dL_booking_115 (by decide) ?_
      obtain ⟨q5, hk10, h⟩ := Option.bind_eq_some_iff.mp h
      refine x_callS C (As := [.int (q1 >>> ((11 : Int32) &&& 31)), .int (4 : Int32)]) (rest := []) (lw_g_mk tw_479 rfl) (okL_part l cy D B ek (q1 >>> ((11 : Int32) &&& 31)) (4 : Int32) σ Y _ hk10) rfl rfl (by rw [hR9]; decide) (lw_g_mk tw_480 rfl) (lw_g_mk tw_0 rfl) (by decide) rfl (lw_g_mk tw_478 rfl) rfl (Nat.le_of_ble_eq_true rfl) dL_booking_116 ⟨by rw [hRc]; omega, by rw [hRs]; omega⟩ ?_
      cases h
      exact hret _ _ dL_booking_119 rfl
    · rw [if_neg hc9] at h
      refine x_iconst C (v := 1) dL_booking_98 (by decide) ?_
      refine x_iload_n C dL_booking_99 rfl 2 rfl ?_
      refine x_bipush C (v := 11) dL_booking_100 (by decide) ?_
      refine x_ishr C dL_booking_102 ?_
      refine x_iconst C (v := 4) dL_booking_103 (by decide) ?_
      obtain ⟨q6, hk11, h⟩ := Option.bind_eq_some_iff.mp h
      refine x_callS C (As := [.int (q1 >>> ((11 : Int32) &&& 31)), .int (4 : Int32)]) (rest := [.int (1 : Int32)]) (lw_g_mk tw_479 rfl) (okL_part l cy D B ek (q1 >>> ((11 : Int32) &&& 31)) (4 : Int32) σ Y _ hk11) rfl rfl (by rw [hR9]; decide) (lw_g_mk tw_480 rfl) (lw_g_mk tw_0 rfl) (by decide) rfl (lw_g_mk tw_478 rfl) rfl (Nat.le_of_ble_eq_true rfl) dL_booking_104 ⟨by rw [hRc]; omega, by rw [hRs]; omega⟩ ?_
      refine x_iadd C dL_booking_107 ?_
      refine x_goto C (tgt := 119) dL_booking_108 (by decide) ?_
      cases h
      exact hret _ _ dL_booking_119 rfl
  rw [if_neg hc8] at h
  by_cases hc12 : p3 = 4
  · rw [if_pos hc12] at h
    refine x_tableIn C (tgt := 120) dL_booking_28 (by rw [hc12]; decide) (by rw [hc12]; decide) (by first | (rw [hc12]; done) | (rw [hc12]; rfl)) (by decide) ?_
    refine x_iload_n C dL_booking_120 rfl 2 rfl ?_
    refine x_bipush C (v := 14) dL_booking_121 (by decide) ?_
    refine x_ishr C dL_booking_123 ?_
    refine x_bipush C (v := 30) dL_booking_124 (by decide) ?_
    obtain ⟨q7, hk13, h⟩ := Option.bind_eq_some_iff.mp h
    refine x_callS C (As := [.int (q1 >>> ((14 : Int32) &&& 31)), .int (30 : Int32)]) (rest := []) (lw_g_mk tw_479 rfl) (okL_part l cy D B ek (q1 >>> ((14 : Int32) &&& 31)) (30 : Int32) σ Y _ hk13) rfl rfl (by rw [hR9]; decide) (lw_g_mk tw_480 rfl) (lw_g_mk tw_0 rfl) (by decide) rfl (lw_g_mk tw_478 rfl) rfl (Nat.le_of_ble_eq_true rfl) dL_booking_126 ⟨by rw [hRc]; omega, by rw [hRs]; omega⟩ ?_
    cases h
    exact hret _ _ dL_booking_129 rfl
  rw [if_neg hc12] at h
  by_cases hc14 : p3 = 5
  · rw [if_pos hc14] at h
    refine x_tableIn C (tgt := 130) dL_booking_28 (by rw [hc14]; decide) (by rw [hc14]; decide) (by first | (rw [hc14]; done) | (rw [hc14]; rfl)) (by decide) ?_
    refine x_iload_n C dL_booking_130 rfl 2 rfl ?_
    refine x_bipush C (v := 19) dL_booking_131 (by decide) ?_
    refine x_ishr C dL_booking_133 ?_
    refine x_bipush C (v := 101) dL_booking_134 (by decide) ?_
    obtain ⟨q8, hk15, h⟩ := Option.bind_eq_some_iff.mp h
    refine x_callS C (As := [.int (q1 >>> ((19 : Int32) &&& 31)), .int (101 : Int32)]) (rest := []) (lw_g_mk tw_479 rfl) (okL_part l cy D B ek (q1 >>> ((19 : Int32) &&& 31)) (101 : Int32) σ Y _ hk15) rfl rfl (by rw [hR9]; decide) (lw_g_mk tw_480 rfl) (lw_g_mk tw_0 rfl) (by decide) rfl (lw_g_mk tw_478 rfl) rfl (Nat.le_of_ble_eq_true rfl) dL_booking_136 ⟨by rw [hRc]; omega, by rw [hRs]; omega⟩ ?_
    cases h
    exact hret _ _ dL_booking_139 rfl
  rw [if_neg hc14] at h
  refine x_tableOut C (tgt := 140) dL_booking_28 (by have := lv_neT hc4 (a := 0) (by decide); have := lv_neT hc5 (a := 1) (by decide); have := lv_neT hc7 (a := 2) (by decide); have := lv_neT hc8 (a := 3) (by decide); have := lv_neT hc12 (a := 4) (by decide); have := lv_neT hc14 (a := 5) (by decide); omega) (by decide) ?_
  refine x_iload_n C dL_booking_140 rfl 2 rfl ?_
  refine x_bipush C (v := 26) dL_booking_141 (by decide) ?_
  refine x_ishr C dL_booking_143 ?_
  refine x_iconst C (v := 4) dL_booking_144 (by decide) ?_
  obtain ⟨q9, hk16, h⟩ := Option.bind_eq_some_iff.mp h
  refine x_callS C (As := [.int (q1 >>> ((26 : Int32) &&& 31)), .int (4 : Int32)]) (rest := []) (lw_g_mk tw_479 rfl) (okL_part l cy D B ek (q1 >>> ((26 : Int32) &&& 31)) (4 : Int32) σ Y _ hk16) rfl rfl (by rw [hR9]; decide) (lw_g_mk tw_480 rfl) (lw_g_mk tw_0 rfl) (by decide) rfl (lw_g_mk tw_478 rfl) rfl (Nat.le_of_ble_eq_true rfl) dL_booking_145 ⟨by rw [hRc]; omega, by rw [hRs]; omega⟩ ?_
  refine x_if_ne C (tgt := 155) dL_booking_148 (by decide) (fun hc17 => ?_) (fun hc17 => ?_)
  · rw [if_pos hc17] at h
    refine x_iconst C (v := 0) dL_booking_155 (by decide) ?_
    cases h
    exact hret _ _ dL_booking_156 rfl
  · rw [if_neg hc17] at h
    refine x_iconst C (v := 1) dL_booking_151 (by decide) ?_
    refine x_goto C (tgt := 156) dL_booking_152 (by decide) ?_
    cases h
    exact hret _ _ dL_booking_156 rfl
def fL_noBed (p2 : Int32) (p3 : Int32) (σ : Mem) : Option (Int32) := ((fX5_bedOf p2 p3 σ).bind fun q1 => Sum.elim (fun x2 => (if 0 ≤ x2 then (some ((0 : Int32))) else (some ((9 : Int32))))) (fun e3 => (if e3 = 3 then (some ((1 : Int32))) else (if e3 = 4 then (some ((2 : Int32))) else none))) q1)
set_option maxHeartbeats 4000000 in
set_option maxRecDepth 100000 in
theorem okL_noBed (l : Launch) (hlf : l.stackTraces = false) (cy : Nat → ClassId) (D : va_G) (B : Nat) (ek : EK) (p2 : Int32) (p3 : Int32) (σ : Mem) (Y : va_W) (res : Int32) (h : fL_noBed p2 p3 σ = some res) : CTW l cy D B ek yL_noBed cL_noBed 4 (some .int) [(0, 15, 16, 112), (0, 15, 19, 114)] ({ frames := 9, cells := 2, slots := 12, locals := 185 } : Room) 2 12 [.ref (B + oHB), .int p2, .int p3] σ Y (some (.int res)) σ Y := by
  refine met_XW (own := "HostelBedsLaw") (by decide) rfl (Nat.le_of_ble_eq_true rfl) ?_
  intro p e s m args below meth c C hrT hlk htab
  have hret : ∀ (cells9 slots9 pc9 : Nat) (lcs9 : List (Nat × Value)), decode cL_noBed pc9 = .ok (.ireturn, 1) → narrow .int (.int res) = .int res → cells9 ≤ 2 → slots9 ≤ 12 → X p l e ({ frames := 9, cells := 2, slots := 12, locals := 185 } : Room) s m args below meth c 4 cy D B cells9 slots9 (vx_MQ below (QX cy D B (.inl (some (.int res))) σ Y) (fun _ _ _ => False) args s 2 12 (aB B)) pc9 lcs9 [.int res] σ Y := fun cells9 slots9 pc9 lcs9 hd hn h1 h2 => x_zretX C hrT hlk hn hd h1 h2
  generalize (vx_MQ below (QX cy D B (.inl (some (.int res))) σ Y) (fun _ _ _ => False) args s 2 12 (aB B)) = Q at hret ⊢
  obtain ⟨R, hR9⟩ : ∃ R : Room, R = ({ frames := 9, cells := 2, slots := 12, locals := 185 } : Room) := ⟨_, rfl⟩
  rw [← hR9] at hret ⊢
  have hRc : R.cells = 2 := by rw [hR9]
  have hRs : R.slots = 12 := by rw [hR9]
  unfold fL_noBed at h
  show X p l e R s m args below meth c 4 cy D B 0 0 Q 0 [(0, .ref (B + oHB)), (1, .int p2), (2, .int p3)] [] σ Y
  refine x_aload_n C dL_noBed_0 rfl 0 rfl ?_
  refine x_iload_n C dL_noBed_1 rfl 1 rfl ?_
  refine x_iload_n C dL_noBed_2 rfl 2 rfl ?_
  obtain ⟨q1, hk1, h⟩ := Option.bind_eq_some_iff.mp h
  refine x_callVX C (As := [.int p2, .int p3]) (rest := []) (cells2 := 2) (slots2 := 12) (lw_g_mk tw_1027 rfl) (lw_g_mk tw_1028 rfl) (c_HB) (C1 := "HostelBeds") (T := TX5) (N := 12) (ci := 7) rfl (okX5_bedOf l hlf cy D B ek p2 p3 σ Y _ hk1) rfl rfl (by rw [hR9]; decide) (lw_g_mk tw_1029 rfl) (lw_g_mk tw_1 rfl) (by decide) rfl (lw_g_mk tw_1026 rfl) rfl (Nat.le_of_ble_eq_true rfl) dL_noBed_3 (by rw [hR9]; decide) rfl rfl (fun v2 hv3 => ?_) (fun k4 hv5 => ?_)
  · rcases q1 with x2 | e3
    · rw [Sum.elim_inl] at h
      have hv3 : (Sum.inl (some (Value.int x2)) : Option Value ⊕ Nat) = .inl v2 := hv3
      cases hv3
      refine x_if_ge C (tgt := 14) dL_noBed_6 (by decide) (fun hc7 => ?_) (fun hc7 => ?_)
      · rw [if_pos hc7] at h
        refine x_iconst C (v := 0) dL_noBed_14 (by decide) ?_
        cases h
        exact hret _ _ _ _ dL_noBed_15 rfl (by omega) (by omega)
      · rw [if_neg hc7] at h
        refine x_bipush C (v := 9) dL_noBed_9 (by decide) ?_
        refine x_goto C (tgt := 15) dL_noBed_11 (by decide) ?_
        cases h
        exact hret _ _ _ _ dL_noBed_15 rfl (by omega) (by omega)
    · cases hv3
  · rcases q1 with x2 | e3
    · cases hv5
    · rw [Sum.elim_inr] at h
      have hv5 : (Sum.inr e3 : Option Value ⊕ Nat) = .inr k4 := hv5
      cases hv5
      by_cases hc9 : k4 = 3
      · rw [if_pos hc9] at h
        subst hc9
        refine x_catch C htab [] ⟨0, 15, 16, 112⟩ [⟨0, 15, 19, 114⟩] rfl (fun z hz => by cases hz) (by decide +kernel) (by decide) (lw_g_mk tw_1024 rfl) (by decide +kernel) (fun q10 => ?_)
        refine x_astore_n C [(3, .ref q10), (0, .ref (B + oHB)), (1, .int p2), (2, .int p3)] dL_noBed_16 rfl (by decide) rfl ?_
        refine x_iconst C (v := 1) dL_noBed_17 (by decide) ?_
        cases h
        exact hret _ _ _ _ dL_noBed_18 rfl (by omega) (by omega)
      rw [if_neg hc9] at h
      by_cases hc11 : k4 = 4
      · rw [if_pos hc11] at h
        subst hc11
        refine x_catch C htab [⟨0, 15, 16, 112⟩] ⟨0, 15, 19, 114⟩ [] rfl (fun z hz => by rcases List.mem_singleton.mp hz with rfl; exact ⟨by decide, "java/lang/IndexOutOfBoundsException", lw_g_mk tw_1024 rfl, by decide +kernel⟩) (by decide +kernel) (by decide) (lw_g_mk tw_1025 rfl) (by decide +kernel) (fun q12 => ?_)
        refine x_astore_n C [(3, .ref q12), (0, .ref (B + oHB)), (1, .int p2), (2, .int p3)] dL_noBed_19 rfl (by decide) rfl ?_
        refine x_iconst C (v := 2) dL_noBed_20 (by decide) ?_
        cases h
        exact hret _ _ _ _ dL_noBed_21 rfl (by omega) (by omega)
      rw [if_neg hc11] at h
      cases h
def fL_noNumber (p2 : Int32) (p3 : Int32) (σ : Mem) : Option (Int32) := ((fX5_booking p2 p3 σ).bind fun q1 => Sum.elim (fun x2 => (if 0 ≤ x2 then (some ((0 : Int32))) else (some ((9 : Int32))))) (fun e3 => (if e3 = 3 then (some ((1 : Int32))) else (if e3 = 2 then (some ((2 : Int32))) else none))) q1)
set_option maxHeartbeats 4000000 in
set_option maxRecDepth 100000 in
theorem okL_noNumber (l : Launch) (hlf : l.stackTraces = false) (cy : Nat → ClassId) (D : va_G) (B : Nat) (ek : EK) (p2 : Int32) (p3 : Int32) (σ : Mem) (Y : va_W) (res : Int32) (h : fL_noNumber p2 p3 σ = some res) : CTW l cy D B ek yL_noNumber cL_noNumber 4 (some .int) [(0, 15, 16, 112), (0, 15, 19, 31)] ({ frames := 8, cells := 2, slots := 12, locals := 164 } : Room) 2 12 [.ref (B + oHB), .int p2, .int p3] σ Y (some (.int res)) σ Y := by
  refine met_XW (own := "HostelBedsLaw") (by decide) rfl (Nat.le_of_ble_eq_true rfl) ?_
  intro p e s m args below meth c C hrT hlk htab
  have hret : ∀ (cells9 slots9 pc9 : Nat) (lcs9 : List (Nat × Value)), decode cL_noNumber pc9 = .ok (.ireturn, 1) → narrow .int (.int res) = .int res → cells9 ≤ 2 → slots9 ≤ 12 → X p l e ({ frames := 8, cells := 2, slots := 12, locals := 164 } : Room) s m args below meth c 4 cy D B cells9 slots9 (vx_MQ below (QX cy D B (.inl (some (.int res))) σ Y) (fun _ _ _ => False) args s 2 12 (aB B)) pc9 lcs9 [.int res] σ Y := fun cells9 slots9 pc9 lcs9 hd hn h1 h2 => x_zretX C hrT hlk hn hd h1 h2
  generalize (vx_MQ below (QX cy D B (.inl (some (.int res))) σ Y) (fun _ _ _ => False) args s 2 12 (aB B)) = Q at hret ⊢
  obtain ⟨R, hR9⟩ : ∃ R : Room, R = ({ frames := 8, cells := 2, slots := 12, locals := 164 } : Room) := ⟨_, rfl⟩
  rw [← hR9] at hret ⊢
  have hRc : R.cells = 2 := by rw [hR9]
  have hRs : R.slots = 12 := by rw [hR9]
  unfold fL_noNumber at h
  show X p l e R s m args below meth c 4 cy D B 0 0 Q 0 [(0, .ref (B + oHB)), (1, .int p2), (2, .int p3)] [] σ Y
  refine x_aload_n C dL_noNumber_0 rfl 0 rfl ?_
  refine x_iload_n C dL_noNumber_1 rfl 1 rfl ?_
  refine x_iload_n C dL_noNumber_2 rfl 2 rfl ?_
  obtain ⟨q1, hk1, h⟩ := Option.bind_eq_some_iff.mp h
  refine x_callVX C (As := [.int p2, .int p3]) (rest := []) (cells2 := 2) (slots2 := 12) (lw_g_mk tw_429 rfl) (lw_g_mk tw_430 rfl) (c_HB) (C1 := "HostelBeds") (T := TX5) (N := 12) (ci := 7) rfl (okX5_booking l hlf cy D B ek p2 p3 σ Y _ hk1) rfl rfl (by rw [hR9]; decide) (lw_g_mk tw_431 rfl) (lw_g_mk tw_1 rfl) (by decide) rfl (lw_g_mk tw_428 rfl) rfl (Nat.le_of_ble_eq_true rfl) dL_noNumber_3 (by rw [hR9]; decide) rfl rfl (fun v2 hv3 => ?_) (fun k4 hv5 => ?_)
  · rcases q1 with x2 | e3
    · rw [Sum.elim_inl] at h
      have hv3 : (Sum.inl (some (Value.int x2)) : Option Value ⊕ Nat) = .inl v2 := hv3
      cases hv3
      refine x_if_ge C (tgt := 14) dL_noNumber_6 (by decide) (fun hc7 => ?_) (fun hc7 => ?_)
      · rw [if_pos hc7] at h
        refine x_iconst C (v := 0) dL_noNumber_14 (by decide) ?_
        cases h
        exact hret _ _ _ _ dL_noNumber_15 rfl (by omega) (by omega)
      · rw [if_neg hc7] at h
        refine x_bipush C (v := 9) dL_noNumber_9 (by decide) ?_
        refine x_goto C (tgt := 15) dL_noNumber_11 (by decide) ?_
        cases h
        exact hret _ _ _ _ dL_noNumber_15 rfl (by omega) (by omega)
    · cases hv3
  · rcases q1 with x2 | e3
    · cases hv5
    · rw [Sum.elim_inr] at h
      have hv5 : (Sum.inr e3 : Option Value ⊕ Nat) = .inr k4 := hv5
      cases hv5
      by_cases hc9 : k4 = 3
      · rw [if_pos hc9] at h
        subst hc9
        refine x_catch C htab [] ⟨0, 15, 16, 112⟩ [⟨0, 15, 19, 31⟩] rfl (fun z hz => by cases hz) (by decide +kernel) (by decide) (lw_g_mk tw_1024 rfl) (by decide +kernel) (fun q10 => ?_)
        refine x_astore_n C [(3, .ref q10), (0, .ref (B + oHB)), (1, .int p2), (2, .int p3)] dL_noNumber_16 rfl (by decide) rfl ?_
        refine x_iconst C (v := 1) dL_noNumber_17 (by decide) ?_
        cases h
        exact hret _ _ _ _ dL_noNumber_18 rfl (by omega) (by omega)
      rw [if_neg hc9] at h
      by_cases hc11 : k4 = 2
      · rw [if_pos hc11] at h
        subst hc11
        refine x_catch C htab [⟨0, 15, 16, 112⟩] ⟨0, 15, 19, 31⟩ [] rfl (fun z hz => by rcases List.mem_singleton.mp hz with rfl; exact ⟨by decide, "java/lang/IndexOutOfBoundsException", lw_g_mk tw_1024 rfl, by decide +kernel⟩) (by decide +kernel) (by decide) (lw_g_mk tw_568 rfl) (by decide +kernel) (fun q12 => ?_)
        refine x_astore_n C [(3, .ref q12), (0, .ref (B + oHB)), (1, .int p2), (2, .int p3)] dL_noNumber_19 rfl (by decide) rfl ?_
        refine x_iconst C (v := 2) dL_noNumber_20 (by decide) ?_
        cases h
        exact hret _ _ _ _ dL_noNumber_21 rfl (by omega) (by omega)
      rw [if_neg hc11] at h
      cases h
def fL_people (xs : Nat → Int32) (L : Nat) (p2 : Int32) : Option (Int32) := ((fL_booking xs L p2 (2 : Int32)).bind fun q1 => ((fL_booking xs L p2 (3 : Int32)).bind fun q2 => (some (q1 + q2))))
set_option maxHeartbeats 4000000 in
set_option maxRecDepth 100000 in
theorem okL_people (l : Launch) (cy : Nat → ClassId) (D : va_G) (B : Nat) (ek : EK) (xs : Nat → Int32) (L : Nat) (hxs : xs = sX ek) (hLs : L = sL ek) (p2 : Int32) (σ : Mem) (Y : va_W) (res : Int32) (h : fL_people xs L p2 = some res) : CT l cy D B ek yL_people cL_people 2 (some .int) ({ frames := 2, cells := 0, slots := 0, locals := 46 } : Room) [.ref (sA ek), .int p2] σ Y (some (.int res)) σ Y := by
  refine met_X (own := "HostelBedsLaw") (by decide) rfl (Nat.le_of_ble_eq_true rfl) ?_
  intro p e s m args below meth c C hrT hlk
  have hret : ∀ (pc9 : Nat) (lcs9 : List (Nat × Value)), decode cL_people pc9 = .ok (.ireturn, 1) → narrow .int (.int res) = .int res → X p l e ({ frames := 2, cells := 0, slots := 0, locals := 46 } : Room) s m args below meth c 2 cy D B 0 0 (MQ below (QR cy D B (some (.int res)) σ Y) args s 0 0 (aB B)) pc9 lcs9 [.int res] σ Y := fun _ _ hd hn => x_zret C hrT hlk hn hd
  generalize (MQ below (QR cy D B (some (.int res)) σ Y) args s 0 0 (aB B)) = Q at hret ⊢
  obtain ⟨R, hR9⟩ : ∃ R : Room, R = ({ frames := 2, cells := 0, slots := 0, locals := 46 } : Room) := ⟨_, rfl⟩
  rw [← hR9] at hret ⊢
  have hRc : R.cells = 0 := by rw [hR9]
  have hRs : R.slots = 0 := by rw [hR9]
  unfold fL_people at h
  show X p l e R s m args below meth c 2 cy D B 0 0 Q 0 [(0, .ref (sA ek)), (1, .int p2)] [] σ Y
  refine x_aload_n C dL_people_0 rfl 0 rfl ?_
  refine x_iload_n C dL_people_1 rfl 1 rfl ?_
  refine x_iconst C (v := 2) dL_people_2 (by decide) ?_
  obtain ⟨q1, hk1, h⟩ := Option.bind_eq_some_iff.mp h
  refine x_callS C (As := [.ref (sA ek), .int p2, .int (2 : Int32)]) (rest := []) (lw_g_mk tw_770 rfl) (okL_booking l cy D B ek xs L hxs hLs p2 (2 : Int32) σ Y _ hk1) rfl rfl (by rw [hR9]; decide) (lw_g_mk tw_771 rfl) (lw_g_mk tw_0 rfl) (by decide) rfl (lw_g_mk tw_769 rfl) rfl (Nat.le_of_ble_eq_true rfl) dL_people_3 ⟨by rw [hRc]; omega, by rw [hRs]; omega⟩ ?_
  refine x_aload_n C dL_people_6 rfl 0 rfl ?_
  refine x_iload_n C dL_people_7 rfl 1 rfl ?_
  refine x_iconst C (v := 3) dL_people_8 (by decide) ?_
  obtain ⟨q2, hk2, h⟩ := Option.bind_eq_some_iff.mp h
  refine x_callS C (As := [.ref (sA ek), .int p2, .int (3 : Int32)]) (rest := [.int q1]) (lw_g_mk tw_770 rfl) (okL_booking l cy D B ek xs L hxs hLs p2 (3 : Int32) σ Y _ hk2) rfl rfl (by rw [hR9]; decide) (lw_g_mk tw_771 rfl) (lw_g_mk tw_0 rfl) (by decide) rfl (lw_g_mk tw_769 rfl) rfl (Nat.le_of_ble_eq_true rfl) dL_people_9 ⟨by rw [hRc]; omega, by rw [hRs]; omega⟩ ?_
  refine x_iadd C dL_people_12 ?_
  cases h
  exact hret _ _ dL_people_13 rfl
def jL_isIn_31 : Option (Int32) := (some ((0 : Int32)))
def fL_isIn (xs : Nat → Int32) (L : Nat) (p2 : Int32) (p3 : Int32) : Option (Int32) := ((fL_booking xs L p2 (0 : Int32)).bind fun q1 => (if p3 < q1 then (jL_isIn_31) else ((fL_booking xs L p2 (0 : Int32)).bind fun q2 => ((fL_booking xs L p2 (1 : Int32)).bind fun q3 => (if (q2 + q3) ≤ p3 then (jL_isIn_31) else (some ((1 : Int32))))))))
set_option maxHeartbeats 4000000 in
set_option maxRecDepth 100000 in
theorem okL_isIn (l : Launch) (cy : Nat → ClassId) (D : va_G) (B : Nat) (ek : EK) (xs : Nat → Int32) (L : Nat) (hxs : xs = sX ek) (hLs : L = sL ek) (p2 : Int32) (p3 : Int32) (σ : Mem) (Y : va_W) (res : Int32) (h : fL_isIn xs L p2 p3 = some res) : CT l cy D B ek yL_isIn cL_isIn 3 (some .boolean) ({ frames := 2, cells := 0, slots := 0, locals := 46 } : Room) [.ref (sA ek), .int p2, .int p3] σ Y (some (.int res)) σ Y := by
  refine met_X (own := "HostelBedsLaw") (by decide) rfl (Nat.le_of_ble_eq_true rfl) ?_
  intro p e s m args below meth c C hrT hlk
  have hret : ∀ (pc9 : Nat) (lcs9 : List (Nat × Value)), decode cL_isIn pc9 = .ok (.ireturn, 1) → narrow .boolean (.int res) = .int res → X p l e ({ frames := 2, cells := 0, slots := 0, locals := 46 } : Room) s m args below meth c 3 cy D B 0 0 (MQ below (QR cy D B (some (.int res)) σ Y) args s 0 0 (aB B)) pc9 lcs9 [.int res] σ Y := fun _ _ hd hn => x_zret C hrT hlk hn hd
  generalize (MQ below (QR cy D B (some (.int res)) σ Y) args s 0 0 (aB B)) = Q at hret ⊢
  obtain ⟨R, hR9⟩ : ∃ R : Room, R = ({ frames := 2, cells := 0, slots := 0, locals := 46 } : Room) := ⟨_, rfl⟩
  rw [← hR9] at hret ⊢
  have hRc : R.cells = 0 := by rw [hR9]
  have hRs : R.slots = 0 := by rw [hR9]
  unfold fL_isIn at h
  show X p l e R s m args below meth c 3 cy D B 0 0 Q 0 [(0, .ref (sA ek)), (1, .int p2), (2, .int p3)] [] σ Y
  refine x_iload_n C dL_isIn_0 rfl 2 rfl ?_
  refine x_aload_n C dL_isIn_1 rfl 0 rfl ?_
  refine x_iload_n C dL_isIn_2 rfl 1 rfl ?_
  refine x_iconst C (v := 0) dL_isIn_3 (by decide) ?_
  obtain ⟨q1, hk1, h⟩ := Option.bind_eq_some_iff.mp h
  refine x_callS C (As := [.ref (sA ek), .int p2, .int (0 : Int32)]) (rest := [.int p3]) (lw_g_mk tw_770 rfl) (okL_booking l cy D B ek xs L hxs hLs p2 (0 : Int32) σ Y _ hk1) rfl rfl (by rw [hR9]; decide) (lw_g_mk tw_771 rfl) (lw_g_mk tw_0 rfl) (by decide) rfl (lw_g_mk tw_769 rfl) rfl (Nat.le_of_ble_eq_true rfl) dL_isIn_4 ⟨by rw [hRc]; omega, by rw [hRs]; omega⟩ ?_
  have hJ2 : ∀ (r9 : Int32), jL_isIn_31 = some r9 → (∀ (pc9 : Nat) (lcs9 : List (Nat × Value)), decode cL_isIn pc9 = .ok (.ireturn, 1) → narrow .boolean (.int r9) = .int r9 → X p l e R s m args below meth c 3 cy D B 0 0 Q pc9 lcs9 [.int r9] σ Y) → X p l e R s m args below meth c 3 cy D B 0 0 Q 31 [] [] σ Y := by
    intro res9 h hret
    unfold jL_isIn_31 at h
    refine x_iconst C (v := 0) dL_isIn_31 (by decide) ?_
    cases h
    exact hret _ _ dL_isIn_32 (nar_Z (Or.inl rfl))
  refine x_icmp_lt C (tgt := 31) dL_isIn_7 (by decide) (fun hc3 => ?_) (fun hc3 => ?_)
  · rw [if_pos hc3] at h
    refine x_sub [] rfl ?_
    exact hJ2 _ h hret
  · rw [if_neg hc3] at h
    refine x_iload_n C dL_isIn_10 rfl 2 rfl ?_
    refine x_aload_n C dL_isIn_11 rfl 0 rfl ?_
    refine x_iload_n C dL_isIn_12 rfl 1 rfl ?_
    refine x_iconst C (v := 0) dL_isIn_13 (by decide) ?_
    obtain ⟨q2, hk4, h⟩ := Option.bind_eq_some_iff.mp h
    refine x_callS C (As := [.ref (sA ek), .int p2, .int (0 : Int32)]) (rest := [.int p3]) (lw_g_mk tw_770 rfl) (okL_booking l cy D B ek xs L hxs hLs p2 (0 : Int32) σ Y _ hk4) rfl rfl (by rw [hR9]; decide) (lw_g_mk tw_771 rfl) (lw_g_mk tw_0 rfl) (by decide) rfl (lw_g_mk tw_769 rfl) rfl (Nat.le_of_ble_eq_true rfl) dL_isIn_14 ⟨by rw [hRc]; omega, by rw [hRs]; omega⟩ ?_
    refine x_aload_n C dL_isIn_17 rfl 0 rfl ?_
    refine x_iload_n C dL_isIn_18 rfl 1 rfl ?_
    refine x_iconst C (v := 1) dL_isIn_19 (by decide) ?_
    obtain ⟨q3, hk5, h⟩ := Option.bind_eq_some_iff.mp h
    refine x_callS C (As := [.ref (sA ek), .int p2, .int (1 : Int32)]) (rest := [.int q2, .int p3]) (lw_g_mk tw_770 rfl) (okL_booking l cy D B ek xs L hxs hLs p2 (1 : Int32) σ Y _ hk5) rfl rfl (by rw [hR9]; decide) (lw_g_mk tw_771 rfl) (lw_g_mk tw_0 rfl) (by decide) rfl (lw_g_mk tw_769 rfl) rfl (Nat.le_of_ble_eq_true rfl) dL_isIn_20 ⟨by rw [hRc]; omega, by rw [hRs]; omega⟩ ?_
    refine x_iadd C dL_isIn_23 ?_
    refine x_icmp_ge C (tgt := 31) dL_isIn_24 (by decide) (fun hc6 => ?_) (fun hc6 => ?_)
    · rw [if_pos hc6] at h
      refine x_sub [] rfl ?_
      exact hJ2 _ h hret
    · rw [if_neg hc6] at h
      refine x_iconst C (v := 1) dL_isIn_27 (by decide) ?_
      refine x_goto C (tgt := 32) dL_isIn_28 (by decide) ?_
      cases h
      exact hret _ _ dL_isIn_32 (nar_Z (Or.inr rfl))
def stL_beds_4 (xs : (Nat → Int32)) (L : Nat) (a4 : Int32 × Int32) : Option ((Int32 × Int32) ⊕ (Int32)) := ((fL_roomsOf xs L).bind fun q1 => (if q1 ≤ a4.2 then (some (.inr a4.1)) else ((fL_room xs L a4.2 (1 : Int32)).bind fun q2 => (some (.inl (a4.1 + q2, a4.2 + (1 : Int32)))))))
def fL_beds (xs : Nat → Int32) (L : Nat) : Option (Int32) := ((loop (stL_beds_4 xs L) 5000 ((0 : Int32), (0 : Int32))).bind fun b4 => (some b4))
set_option maxHeartbeats 4000000 in
set_option maxRecDepth 100000 in
theorem okL_beds (l : Launch) (cy : Nat → ClassId) (D : va_G) (B : Nat) (ek : EK) (xs : Nat → Int32) (L : Nat) (hxs : xs = sX ek) (hLs : L = sL ek) (σ : Mem) (Y : va_W) (res : Int32) (h : fL_beds xs L = some res) : CT l cy D B ek yL_beds cL_beds 3 (some .int) ({ frames := 2, cells := 0, slots := 0, locals := 44 } : Room) [.ref (sA ek)] σ Y (some (.int res)) σ Y := by
  refine met_X (own := "HostelBedsLaw") (by decide) rfl (Nat.le_of_ble_eq_true rfl) ?_
  intro p e s m args below meth c C hrT hlk
  have hret : ∀ (pc9 : Nat) (lcs9 : List (Nat × Value)), decode cL_beds pc9 = .ok (.ireturn, 1) → narrow .int (.int res) = .int res → X p l e ({ frames := 2, cells := 0, slots := 0, locals := 44 } : Room) s m args below meth c 3 cy D B 0 0 (MQ below (QR cy D B (some (.int res)) σ Y) args s 0 0 (aB B)) pc9 lcs9 [.int res] σ Y := fun _ _ hd hn => x_zret C hrT hlk hn hd
  generalize (MQ below (QR cy D B (some (.int res)) σ Y) args s 0 0 (aB B)) = Q at hret ⊢
  obtain ⟨R, hR9⟩ : ∃ R : Room, R = ({ frames := 2, cells := 0, slots := 0, locals := 44 } : Room) := ⟨_, rfl⟩
  rw [← hR9] at hret ⊢
  have hRc : R.cells = 0 := by rw [hR9]
  have hRs : R.slots = 0 := by rw [hR9]
  unfold fL_beds at h
  show X p l e R s m args below meth c 3 cy D B 0 0 Q 0 [(0, .ref (sA ek))] [] σ Y
  refine x_iconst C (v := 0) dL_beds_0 (by decide) ?_
  refine x_istore_n C [(1, .int (0 : Int32)), (0, .ref (sA ek))] dL_beds_1 rfl (by decide) rfl ?_
  refine x_iconst C (v := 0) dL_beds_2 (by decide) ?_
  refine x_istore_n C [(2, .int (0 : Int32)), (1, .int (0 : Int32)), (0, .ref (sA ek))] dL_beds_3 rfl (by decide) rfl ?_
  obtain ⟨b4, hk6, h⟩ := Option.bind_eq_some_iff.mp h
  refine x_sub [2, 1, 0] rfl ?_
  refine loop_run (step := stL_beds_4 xs L) (P := fun (a4 : Int32 × Int32) => X p l e R s m args below meth c 3 cy D B 0 0 Q 4 [(0, .ref (sA ek)), (1, .int a4.1), (2, .int a4.2)] [] σ Y) (K := fun (b4 : Int32) => X p l e R s m args below meth c 3 cy D B 0 0 Q 27 [(1, .int b4)] [] σ Y) ?_ 5000 ((0 : Int32), (0 : Int32)) b4 hk6 ?_
  · intro a4 r h hA1 hB2
    unfold stL_beds_4 at h
    refine x_iload_n C dL_beds_4 rfl 2 rfl ?_
    refine x_aload_n C dL_beds_5 rfl 0 rfl ?_
    obtain ⟨q1, hk3, h⟩ := Option.bind_eq_some_iff.mp h
    refine x_callS C (As := [.ref (sA ek)]) (rest := [.int a4.2]) (lw_g_mk tw_761 rfl) (okL_roomsOf l cy D B ek xs L hxs hLs σ Y _ hk3) rfl rfl (by rw [hR9]; decide) (lw_g_mk tw_762 rfl) (lw_g_mk tw_0 rfl) (by decide) rfl (lw_g_mk tw_760 rfl) rfl (Nat.le_of_ble_eq_true rfl) dL_beds_6 ⟨by rw [hRc]; omega, by rw [hRs]; omega⟩ ?_
    refine x_icmp_ge C (tgt := 27) dL_beds_9 (by decide) (fun hc4 => ?_) (fun hc4 => ?_)
    · rw [if_pos hc4] at h
      cases h
      refine x_sub [1] rfl ?_
      exact hB2 a4.1 rfl
    · rw [if_neg hc4] at h
      refine x_iload_n C dL_beds_12 rfl 1 rfl ?_
      refine x_aload_n C dL_beds_13 rfl 0 rfl ?_
      refine x_iload_n C dL_beds_14 rfl 2 rfl ?_
      refine x_iconst C (v := 1) dL_beds_15 (by decide) ?_
      obtain ⟨q2, hk5, h⟩ := Option.bind_eq_some_iff.mp h
      refine x_callS C (As := [.ref (sA ek), .int a4.2, .int (1 : Int32)]) (rest := [.int a4.1]) (lw_g_mk tw_764 rfl) (okL_room l cy D B ek xs L hxs hLs a4.2 (1 : Int32) σ Y _ hk5) rfl rfl (by rw [hR9]; decide) (lw_g_mk tw_765 rfl) (lw_g_mk tw_0 rfl) (by decide) rfl (lw_g_mk tw_763 rfl) rfl (Nat.le_of_ble_eq_true rfl) dL_beds_16 ⟨by rw [hRc]; omega, by rw [hRs]; omega⟩ ?_
      refine x_iadd C dL_beds_19 ?_
      refine x_istore_n C [(1, .int (a4.1 + q2)), (0, .ref (sA ek)), (2, .int a4.2)] dL_beds_20 rfl (by decide) rfl ?_
      refine x_iinc C (k := 2) [(2, .int (a4.2 + (1 : Int32))), (1, .int (a4.1 + q2)), (0, .ref (sA ek))] dL_beds_21 rfl rfl (by decide) rfl ?_
      refine x_goto C (tgt := 4) dL_beds_24 (by decide) ?_
      cases h
      refine x_sub [2, 1, 0] rfl ?_
      exact hA1 (a4.1 + q2, a4.2 + (1 : Int32)) rfl
  · show X p l e R s m args below meth c 3 cy D B 0 0 Q 27 [(1, .int b4)] [] σ Y
    refine x_iload_n C dL_beds_27 rfl 0 rfl ?_
    cases h
    exact hret _ _ dL_beds_28 rfl
def jL_booked_42 (a5 : Int32 × Int32) (t2 : Int32) : Option ((Int32 × Int32) ⊕ (Int32)) := (some (.inl (a5.1 + t2, a5.2 + (1 : Int32))))
def jL_booked_41 (a5 : Int32 × Int32) : Option ((Int32 × Int32) ⊕ (Int32)) := (jL_booked_42 a5 (0 : Int32))
def stL_booked_5 (xs : (Nat → Int32)) (L : Nat) (ac : (Nat → Int32)) (p3 : Int32) (a5 : Int32 × Int32) : Option ((Int32 × Int32) ⊕ (Int32)) := ((fL_bookingsOf xs L).bind fun q1 => (if q1 ≤ a5.2 then (some (.inr a5.1)) else (gd (inb a5.2 8) (if (ac a5.2.toNatClampNeg) = 0 then (jL_booked_41 a5) else ((fL_isIn xs L a5.2 p3).bind fun q3 => (if q3 = 0 then (jL_booked_41 a5) else ((fL_people xs L a5.2).bind fun q4 => (jL_booked_42 a5 q4))))))))
def fL_booked (xs : Nat → Int32) (L : Nat) (p3 : Int32) (ac : (Nat → Int32)) : Option (Int32) := ((loop (stL_booked_5 xs L ac p3) 5000 ((0 : Int32), (0 : Int32))).bind fun b5 => (some b5))
set_option maxHeartbeats 4000000 in
set_option maxRecDepth 100000 in
theorem okL_booked (l : Launch) (cy : Nat → ClassId) (D : va_G) (B : Nat) (ek : EK) (xs : Nat → Int32) (L : Nat) (hxs : xs = sX ek) (hLs : L = sL ek) (aA : Nat) (iA : Nat) (p3 : Int32) (ac : (Nat → Int32)) (σ : Mem) (Y : va_W) (hA : Y[iA]? = some (cAc cy aA ac)) (res : Int32) (h : fL_booked xs L p3 ac = some res) : CT l cy D B ek yL_booked cL_booked 5 (some .int) ({ frames := 3, cells := 0, slots := 0, locals := 68 } : Room) [.ref (sA ek), .ref aA, .int p3] σ Y (some (.int res)) σ Y := by
  refine met_X (own := "HostelBedsLaw") (by decide) rfl (Nat.le_of_ble_eq_true rfl) ?_
  intro p e s m args below meth c C hrT hlk
  have hret : ∀ (pc9 : Nat) (lcs9 : List (Nat × Value)), decode cL_booked pc9 = .ok (.ireturn, 1) → narrow .int (.int res) = .int res → X p l e ({ frames := 3, cells := 0, slots := 0, locals := 68 } : Room) s m args below meth c 5 cy D B 0 0 (MQ below (QR cy D B (some (.int res)) σ Y) args s 0 0 (aB B)) pc9 lcs9 [.int res] σ Y := fun _ _ hd hn => x_zret C hrT hlk hn hd
  generalize (MQ below (QR cy D B (some (.int res)) σ Y) args s 0 0 (aB B)) = Q at hret ⊢
  obtain ⟨R, hR9⟩ : ∃ R : Room, R = ({ frames := 3, cells := 0, slots := 0, locals := 68 } : Room) := ⟨_, rfl⟩
  rw [← hR9] at hret ⊢
  have hRc : R.cells = 0 := by rw [hR9]
  have hRs : R.slots = 0 := by rw [hR9]
  unfold fL_booked at h
  show X p l e R s m args below meth c 5 cy D B 0 0 Q 0 [(0, .ref (sA ek)), (1, .ref aA), (2, .int p3)] [] σ Y
  refine x_iconst C (v := 0) dL_booked_0 (by decide) ?_
  refine x_istore_n C [(3, .int (0 : Int32)), (0, .ref (sA ek)), (1, .ref aA), (2, .int p3)] dL_booked_1 rfl (by decide) rfl ?_
  refine x_iconst C (v := 0) dL_booked_2 (by decide) ?_
  refine x_istore C [(4, .int (0 : Int32)), (3, .int (0 : Int32)), (0, .ref (sA ek)), (1, .ref aA), (2, .int p3)] dL_booked_3 (by decide) rfl ?_
  obtain ⟨b5, hk12, h⟩ := Option.bind_eq_some_iff.mp h
  refine x_sub [2, 3, 4, 1, 0] rfl ?_
  refine loop_run (step := stL_booked_5 xs L ac p3) (P := fun (a5 : Int32 × Int32) => X p l e R s m args below meth c 5 cy D B 0 0 Q 5 [(0, .ref (sA ek)), (1, .ref aA), (2, .int p3), (3, .int a5.1), (4, .int a5.2)] [] σ Y) (K := fun (b5 : Int32) => X p l e R s m args below meth c 5 cy D B 0 0 Q 50 [(3, .int b5)] [] σ Y) ?_ 5000 ((0 : Int32), (0 : Int32)) b5 hk12 ?_
  · intro a5 r h hA1 hB2
    unfold stL_booked_5 at h
    refine x_iload C dL_booked_5 4 rfl ?_
    refine x_aload_n C dL_booked_7 rfl 0 rfl ?_
    obtain ⟨q1, hk3, h⟩ := Option.bind_eq_some_iff.mp h
    refine x_callS C (As := [.ref (sA ek)]) (rest := [.int a5.2]) (lw_g_mk tw_767 rfl) (okL_bookingsOf l cy D B ek xs L hxs hLs σ Y _ hk3) rfl rfl (by rw [hR9]; decide) (lw_g_mk tw_768 rfl) (lw_g_mk tw_0 rfl) (by decide) rfl (lw_g_mk tw_766 rfl) rfl (Nat.le_of_ble_eq_true rfl) dL_booked_8 ⟨by rw [hRc]; omega, by rw [hRs]; omega⟩ ?_
    refine x_icmp_ge C (tgt := 50) dL_booked_11 (by decide) (fun hc4 => ?_) (fun hc4 => ?_)
    · rw [if_pos hc4] at h
      cases h
      refine x_sub [3] rfl ?_
      exact hB2 a5.1 rfl
    · rw [if_neg hc4] at h
      refine x_iload_n C dL_booked_14 rfl 3 rfl ?_
      refine x_aload_n C dL_booked_15 rfl 1 rfl ?_
      refine x_iload C dL_booked_16 4 rfl ?_
      obtain ⟨hg5, h⟩ := gd_some h
      refine x_zald C _ (wl_ex hA) hg5 dL_booked_18 ?_
      have hJ6 : ∀ (t2 : Int32) (r9 : (Int32 × Int32) ⊕ (Int32)), jL_booked_42 a5 t2 = some r9 → (∀ a2, r9 = .inl a2 → (fun (a5 : Int32 × Int32) => X p l e R s m args below meth c 5 cy D B 0 0 Q 5 [(0, .ref (sA ek)), (1, .ref aA), (2, .int p3), (3, .int a5.1), (4, .int a5.2)] [] σ Y) a2) → (∀ b2, r9 = .inr b2 → (fun (b5 : Int32) => X p l e R s m args below meth c 5 cy D B 0 0 Q 50 [(3, .int b5)] [] σ Y) b2) → X p l e R s m args below meth c 5 cy D B 0 0 Q 42 [(0, .ref (sA ek)), (1, .ref aA), (2, .int p3), (4, .int a5.2)] [.int t2, .int a5.1] σ Y := by
        intro t2 r h hA1 hB2
        unfold jL_booked_42 at h
        refine x_iadd C dL_booked_42 ?_
        refine x_istore_n C [(3, .int (a5.1 + t2)), (0, .ref (sA ek)), (1, .ref aA), (2, .int p3), (4, .int a5.2)] dL_booked_43 rfl (by decide) rfl ?_
        refine x_iinc C (k := 4) [(4, .int (a5.2 + (1 : Int32))), (3, .int (a5.1 + t2)), (0, .ref (sA ek)), (1, .ref aA), (2, .int p3)] dL_booked_44 rfl rfl (by decide) rfl ?_
        refine x_goto C (tgt := 5) dL_booked_47 (by decide) ?_
        cases h
        refine x_sub [2, 3, 4, 1, 0] rfl ?_
        exact hA1 (a5.1 + t2, a5.2 + (1 : Int32)) rfl
      have hJ7 : ∀ (r9 : (Int32 × Int32) ⊕ (Int32)), jL_booked_41 a5 = some r9 → (∀ a2, r9 = .inl a2 → (fun (a5 : Int32 × Int32) => X p l e R s m args below meth c 5 cy D B 0 0 Q 5 [(0, .ref (sA ek)), (1, .ref aA), (2, .int p3), (3, .int a5.1), (4, .int a5.2)] [] σ Y) a2) → (∀ b2, r9 = .inr b2 → (fun (b5 : Int32) => X p l e R s m args below meth c 5 cy D B 0 0 Q 50 [(3, .int b5)] [] σ Y) b2) → X p l e R s m args below meth c 5 cy D B 0 0 Q 41 [(0, .ref (sA ek)), (1, .ref aA), (2, .int p3), (4, .int a5.2)] [.int a5.1] σ Y := by
        intro r h hA1 hB2
        unfold jL_booked_41 at h
        refine x_iconst C (v := 0) dL_booked_41 (by decide) ?_
        exact hJ6 (0 : Int32) _ h hA1 hB2
      refine x_if_eq C (tgt := 41) dL_booked_19 (by decide) (fun hc8 => ?_) (fun hc8 => ?_)
      · rw [if_pos hc8] at h
        refine x_sub [0, 1, 2, 4] rfl ?_
        exact hJ7 _ h hA1 hB2
      · rw [if_neg hc8] at h
        refine x_aload_n C dL_booked_22 rfl 0 rfl ?_
        refine x_iload C dL_booked_23 4 rfl ?_
        refine x_iload_n C dL_booked_25 rfl 2 rfl ?_
        obtain ⟨q3, hk9, h⟩ := Option.bind_eq_some_iff.mp h
        refine x_callS C (As := [.ref (sA ek), .int a5.2, .int p3]) (rest := [.int a5.1]) (lw_g_mk tw_1068 rfl) (okL_isIn l cy D B ek xs L hxs hLs a5.2 p3 σ Y _ hk9) rfl rfl (by rw [hR9]; decide) (lw_g_mk tw_1069 rfl) (lw_g_mk tw_0 rfl) (by decide) rfl (lw_g_mk tw_1067 rfl) rfl (Nat.le_of_ble_eq_true rfl) dL_booked_26 ⟨by rw [hRc]; omega, by rw [hRs]; omega⟩ ?_
        refine x_if_eq C (tgt := 41) dL_booked_29 (by decide) (fun hc10 => ?_) (fun hc10 => ?_)
        · rw [if_pos hc10] at h
          refine x_sub [0, 1, 2, 4] rfl ?_
          exact hJ7 _ h hA1 hB2
        · rw [if_neg hc10] at h
          refine x_aload_n C dL_booked_32 rfl 0 rfl ?_
          refine x_iload C dL_booked_33 4 rfl ?_
          obtain ⟨q4, hk11, h⟩ := Option.bind_eq_some_iff.mp h
          refine x_callS C (As := [.ref (sA ek), .int a5.2]) (rest := [.int a5.1]) (lw_g_mk tw_1059 rfl) (okL_people l cy D B ek xs L hxs hLs a5.2 σ Y _ hk11) rfl rfl (by rw [hR9]; decide) (lw_g_mk tw_1060 rfl) (lw_g_mk tw_0 rfl) (by decide) rfl (lw_g_mk tw_1058 rfl) rfl (Nat.le_of_ble_eq_true rfl) dL_booked_35 ⟨by rw [hRc]; omega, by rw [hRs]; omega⟩ ?_
          refine x_goto C (tgt := 42) dL_booked_38 (by decide) ?_
          refine x_sub [0, 1, 2, 4] rfl ?_
          exact hJ6 q4 _ h hA1 hB2
  · show X p l e R s m args below meth c 5 cy D B 0 0 Q 50 [(3, .int b5)] [] σ Y
    refine x_iload_n C dL_booked_50 rfl 0 rfl ?_
    cases h
    exact hret _ _ dL_booked_51 rfl
def jL_accepted_79 (a38 : Int32 × Int32) (t5 : Int32) : Option ((Int32 × Int32) ⊕ (Int32)) := (some (.inl (a38.1 &&& t5, a38.2 + (1 : Int32))))
def stL_accepted_38 (xs : (Nat → Int32)) (L : Nat) (a24 : Int32 × (Nat → Int32)) (q1 : Int32) (q2 : Int32) (a38 : Int32 × Int32) : Option ((Int32 × Int32) ⊕ (Int32)) := (if (30 : Int32) ≤ a38.2 then (some (.inr a38.1)) else ((fL_isIn xs L a24.1 a38.2).bind fun q4 => (if q4 = 0 then (jL_accepted_79 a38 (1 : Int32)) else ((fL_booked xs L a38.2 a24.2).bind fun q6 => ((fL_people xs L a24.1).bind fun q7 => (if ((q1 * ((100 : Int32) + q2)) / (100 : Int32)) < (q6 + q7) then (jL_accepted_79 a38 (0 : Int32)) else (jL_accepted_79 a38 (1 : Int32))))))))
def stL_accepted_24 (xs : (Nat → Int32)) (L : Nat) (q1 : Int32) (q2 : Int32) (a24 : Int32 × (Nat → Int32)) : Option ((Int32 × (Nat → Int32)) ⊕ ((Nat → Int32))) := ((fL_bookingsOf xs L).bind fun q3 => (if q3 ≤ a24.1 then (some (.inr a24.2)) else ((loop (stL_accepted_38 xs L a24 q1 q2) 5000 ((1 : Int32), (0 : Int32))).bind fun b38 => (gd (inb a24.1 8) (some (.inl (a24.1 + (1 : Int32), upd a24.2 a24.1.toNatClampNeg (vp_nar .boolean b38))))))))
def fL_accepted (xs : Nat → Int32) (L : Nat) : Option ((Nat → Int32)) := ((fL_beds xs L).bind fun q1 => ((fL_setting xs L (0 : Int32)).bind fun q2 => ((loop (stL_accepted_24 xs L q1 q2) 5000 ((0 : Int32), (fun _ => 0))).bind fun b24 => (some b24))))
set_option maxHeartbeats 4000000 in
set_option maxRecDepth 100000 in
theorem okL_accepted (l : Launch) (cy : Nat → ClassId) (D : va_G) (B : Nat) (ek : EK) (xs : Nat → Int32) (L : Nat) (hxs : xs = sX ek) (hLs : L = sL ek) (σ : Mem) (Y : va_W) (res : (Nat → Int32)) (h : fL_accepted xs L = some res) : CTE l cy D B ek yL_accepted cL_accepted 6 (some (.array .boolean)) ({ frames := 4, cells := 1, slots := 8, locals := 92 } : Room) 1 8 [.ref (sA ek)] σ Y (fun v9 σ9 Y9 => ∃ aA : Nat, v9 = some (.ref aA) ∧ σ9 = σ ∧ Y9 = Y ++ [cAc cy aA res]) := by
  refine met_XE (own := "HostelBedsLaw") (by decide) rfl (Nat.le_of_ble_eq_true rfl) ?_
  intro p e s m args below meth c C hrT hlk
  have hret : ∀ (aA : Nat) (cells9 slots9 pc9 : Nat) (lcs9 : List (Nat × Value)), decode cL_accepted pc9 = .ok (.areturn, 1) → cells9 ≤ 1 → slots9 ≤ 8 → X p l e ({ frames := 4, cells := 1, slots := 8, locals := 92 } : Room) s m args below meth c 6 cy D B cells9 slots9 (MQ below (QE cy D B (fun v9 σ9 Y9 => ∃ aA : Nat, v9 = some (.ref aA) ∧ σ9 = σ ∧ Y9 = Y ++ [cAc cy aA res])) args s 1 8 (aB B)) pc9 lcs9 [.ref aA] σ (Y ++ [cAc cy aA res]) := fun aA cells9 slots9 pc9 lcs9 hd h1 h2 => x_aretE C hrT hlk (Or.inr ⟨_, rfl⟩) hd h1 h2 ⟨aA, rfl, rfl, rfl⟩
  generalize (MQ below (QE cy D B (fun v9 σ9 Y9 => ∃ aA : Nat, v9 = some (.ref aA) ∧ σ9 = σ ∧ Y9 = Y ++ [cAc cy aA res])) args s 1 8 (aB B)) = Q at hret ⊢
  obtain ⟨R, hR9⟩ : ∃ R : Room, R = ({ frames := 4, cells := 1, slots := 8, locals := 92 } : Room) := ⟨_, rfl⟩
  rw [← hR9] at hret ⊢
  have hRc : R.cells = 1 := by rw [hR9]
  have hRs : R.slots = 8 := by rw [hR9]
  unfold fL_accepted at h
  show X p l e R s m args below meth c 6 cy D B 0 0 Q 0 [(0, .ref (sA ek))] [] σ Y
  refine x_bipush C (v := 8) dL_accepted_0 (by decide) ?_
  refine x_newZ C (lw_g_mk tw_1073 rfl) (z := 8) (by decide) (by decide) (by decide) (by rw [hRc]; omega) (by rw [hRs]; omega) dL_accepted_2 (fun aA => ?_)
  refine x_astore_n C [(1, .ref aA), (0, .ref (sA ek))] dL_accepted_4 rfl (by decide) rfl ?_
  refine x_aload_n C dL_accepted_5 rfl 1 rfl ?_
  obtain ⟨q1, hk1, h⟩ := Option.bind_eq_some_iff.mp h
  refine x_callS C (As := [.ref (sA ek)]) (rest := []) (lw_g_mk tw_1062 rfl) (okL_beds l cy D B ek xs L hxs hLs σ (Y ++ [cAc cy aA (fun _ => 0)]) _ hk1) rfl rfl (by rw [hR9]; decide) (lw_g_mk tw_1063 rfl) (lw_g_mk tw_0 rfl) (by decide) rfl (lw_g_mk tw_1061 rfl) rfl (Nat.le_of_ble_eq_true rfl) dL_accepted_6 ⟨by rw [hRc]; omega, by rw [hRs]; omega⟩ ?_
  refine x_bipush C (v := 100) dL_accepted_9 (by decide) ?_
  refine x_aload_n C dL_accepted_11 rfl 1 rfl ?_
  refine x_iconst C (v := 0) dL_accepted_12 (by decide) ?_
  obtain ⟨q2, hk2, h⟩ := Option.bind_eq_some_iff.mp h
  refine x_callS C (As := [.ref (sA ek), .int (0 : Int32)]) (rest := [.int (100 : Int32), .int q1]) (lw_g_mk tw_949 rfl) (okL_setting l cy D B ek xs L hxs hLs (0 : Int32) σ (Y ++ [cAc cy aA (fun _ => 0)]) _ hk2) rfl rfl (by rw [hR9]; decide) (lw_g_mk tw_950 rfl) (lw_g_mk tw_0 rfl) (by decide) rfl (lw_g_mk tw_948 rfl) rfl (Nat.le_of_ble_eq_true rfl) dL_accepted_13 ⟨by rw [hRc]; omega, by rw [hRs]; omega⟩ ?_
  refine x_iadd C dL_accepted_16 ?_
  refine x_imul C dL_accepted_17 ?_
  refine x_bipush C (v := 100) dL_accepted_18 (by decide) ?_
  refine x_idiv C dL_accepted_20 (by decide) ?_
  refine x_istore_n C [(2, .int ((q1 * ((100 : Int32) + q2)) / (100 : Int32))), (1, .ref aA), (0, .ref (sA ek))] dL_accepted_21 rfl (by decide) rfl ?_
  refine x_iconst C (v := 0) dL_accepted_22 (by decide) ?_
  refine x_istore_n C [(3, .int (0 : Int32)), (2, .int ((q1 * ((100 : Int32) + q2)) / (100 : Int32))), (1, .ref aA), (0, .ref (sA ek))] dL_accepted_23 rfl (by decide) rfl ?_
  obtain ⟨b24, hk18, h⟩ := Option.bind_eq_some_iff.mp h
  refine x_sub [3, 2, 1, 0] rfl ?_
  refine loop_run (step := stL_accepted_24 xs L q1 q2) (P := fun (a24 : Int32 × (Nat → Int32)) => X p l e R s m args below meth c 6 cy D B (0 + 1) (0 + 8) Q 24 [(0, .ref (sA ek)), (1, .ref aA), (2, .int ((q1 * ((100 : Int32) + q2)) / (100 : Int32))), (3, .int a24.1)] [] σ (Y ++ [cAc cy aA a24.2])) (K := fun (b24 : (Nat → Int32)) => X p l e R s m args below meth c 6 cy D B (0 + 1) (0 + 8) Q 99 [(1, .ref aA)] [] σ (Y ++ [cAc cy aA b24])) ?_ 5000 ((0 : Int32), (fun _ => 0)) b24 hk18 ?_
  · intro a24 r h hA3 hB4
    unfold stL_accepted_24 at h
    refine x_iload_n C dL_accepted_24 rfl 3 rfl ?_
    refine x_aload_n C dL_accepted_25 rfl 0 rfl ?_
    obtain ⟨q3, hk5, h⟩ := Option.bind_eq_some_iff.mp h
    refine x_callS C (As := [.ref (sA ek)]) (rest := [.int a24.1]) (lw_g_mk tw_767 rfl) (okL_bookingsOf l cy D B ek xs L hxs hLs σ (Y ++ [cAc cy aA a24.2]) _ hk5) rfl rfl (by rw [hR9]; decide) (lw_g_mk tw_768 rfl) (lw_g_mk tw_0 rfl) (by decide) rfl (lw_g_mk tw_766 rfl) rfl (Nat.le_of_ble_eq_true rfl) dL_accepted_26 ⟨by rw [hRc]; omega, by rw [hRs]; omega⟩ ?_
    refine x_icmp_ge C (tgt := 99) dL_accepted_29 (by decide) (fun hc6 => ?_) (fun hc6 => ?_)
    · rw [if_pos hc6] at h
      cases h
      refine x_sub [1] rfl ?_
      exact hB4 a24.2 rfl
    · rw [if_neg hc6] at h
      refine x_iconst C (v := 1) dL_accepted_32 (by decide) ?_
      refine x_istore C [(4, .int (1 : Int32)), (0, .ref (sA ek)), (1, .ref aA), (2, .int ((q1 * ((100 : Int32) + q2)) / (100 : Int32))), (3, .int a24.1)] dL_accepted_33 (by decide) rfl ?_
      refine x_iconst C (v := 0) dL_accepted_35 (by decide) ?_
      refine x_istore C [(5, .int (0 : Int32)), (4, .int (1 : Int32)), (0, .ref (sA ek)), (1, .ref aA), (2, .int ((q1 * ((100 : Int32) + q2)) / (100 : Int32))), (3, .int a24.1)] dL_accepted_36 (by decide) rfl ?_
      obtain ⟨b38, hk16, h⟩ := Option.bind_eq_some_iff.mp h
      refine x_sub [2, 3, 4, 5, 1, 0] rfl ?_
      refine loop_run (step := stL_accepted_38 xs L a24 q1 q2) (P := fun (a38 : Int32 × Int32) => X p l e R s m args below meth c 6 cy D B (0 + 1) (0 + 8) Q 38 [(0, .ref (sA ek)), (1, .ref aA), (2, .int ((q1 * ((100 : Int32) + q2)) / (100 : Int32))), (3, .int a24.1), (4, .int a38.1), (5, .int a38.2)] [] σ (Y ++ [cAc cy aA a24.2])) (K := fun (b38 : Int32) => X p l e R s m args below meth c 6 cy D B (0 + 1) (0 + 8) Q 88 [(0, .ref (sA ek)), (1, .ref aA), (2, .int ((q1 * ((100 : Int32) + q2)) / (100 : Int32))), (3, .int a24.1), (4, .int b38)] [] σ (Y ++ [cAc cy aA a24.2])) ?_ 5000 ((1 : Int32), (0 : Int32)) b38 hk16 ?_
      · intro a38 r h hA7 hB8
        unfold stL_accepted_38 at h
        refine x_iload C dL_accepted_38 5 rfl ?_
        refine x_bipush C (v := 30) dL_accepted_40 (by decide) ?_
        refine x_icmp_ge C (tgt := 88) dL_accepted_42 (by decide) (fun hc9 => ?_) (fun hc9 => ?_)
        · rw [if_pos hc9] at h
          cases h
          refine x_sub [0, 1, 2, 3, 4] rfl ?_
          exact hB8 a38.1 rfl
        · rw [if_neg hc9] at h
          refine x_iload C dL_accepted_45 4 rfl ?_
          refine x_aload_n C dL_accepted_47 rfl 0 rfl ?_
          refine x_iload_n C dL_accepted_48 rfl 3 rfl ?_
          refine x_iload C dL_accepted_49 5 rfl ?_
          obtain ⟨q4, hk10, h⟩ := Option.bind_eq_some_iff.mp h
          refine x_callS C (As := [.ref (sA ek), .int a24.1, .int a38.2]) (rest := [.int a38.1]) (lw_g_mk tw_1068 rfl) (okL_isIn l cy D B ek xs L hxs hLs a24.1 a38.2 σ (Y ++ [cAc cy aA a24.2]) _ hk10) rfl rfl (by rw [hR9]; decide) (lw_g_mk tw_1069 rfl) (lw_g_mk tw_0 rfl) (by decide) rfl (lw_g_mk tw_1067 rfl) rfl (Nat.le_of_ble_eq_true rfl) dL_accepted_51 ⟨by rw [hRc]; omega, by rw [hRs]; omega⟩ ?_
          have hJ11 : ∀ (t5 : Int32) (r9 : (Int32 × Int32) ⊕ (Int32)), jL_accepted_79 a38 t5 = some r9 → (∀ a2, r9 = .inl a2 → (fun (a38 : Int32 × Int32) => X p l e R s m args below meth c 6 cy D B (0 + 1) (0 + 8) Q 38 [(0, .ref (sA ek)), (1, .ref aA), (2, .int ((q1 * ((100 : Int32) + q2)) / (100 : Int32))), (3, .int a24.1), (4, .int a38.1), (5, .int a38.2)] [] σ (Y ++ [cAc cy aA a24.2])) a2) → (∀ b2, r9 = .inr b2 → (fun (b38 : Int32) => X p l e R s m args below meth c 6 cy D B (0 + 1) (0 + 8) Q 88 [(0, .ref (sA ek)), (1, .ref aA), (2, .int ((q1 * ((100 : Int32) + q2)) / (100 : Int32))), (3, .int a24.1), (4, .int b38)] [] σ (Y ++ [cAc cy aA a24.2])) b2) → X p l e R s m args below meth c 6 cy D B (0 + 1) (0 + 8) Q 79 [(0, .ref (sA ek)), (1, .ref aA), (2, .int ((q1 * ((100 : Int32) + q2)) / (100 : Int32))), (3, .int a24.1), (5, .int a38.2)] [.int t5, .int a38.1] σ (Y ++ [cAc cy aA a24.2]) := by
            intro t5 r h hA7 hB8
            unfold jL_accepted_79 at h
            refine x_iand C dL_accepted_79 ?_
            refine x_istore C [(4, .int (a38.1 &&& t5)), (0, .ref (sA ek)), (1, .ref aA), (2, .int ((q1 * ((100 : Int32) + q2)) / (100 : Int32))), (3, .int a24.1), (5, .int a38.2)] dL_accepted_80 (by decide) rfl ?_
            refine x_iinc C (k := 5) [(5, .int (a38.2 + (1 : Int32))), (4, .int (a38.1 &&& t5)), (0, .ref (sA ek)), (1, .ref aA), (2, .int ((q1 * ((100 : Int32) + q2)) / (100 : Int32))), (3, .int a24.1)] dL_accepted_82 rfl rfl (by decide) rfl ?_
            refine x_goto C (tgt := 38) dL_accepted_85 (by decide) ?_
            cases h
            refine x_sub [2, 3, 4, 5, 1, 0] rfl ?_
            exact hA7 (a38.1 &&& t5, a38.2 + (1 : Int32)) rfl
          refine x_if_eq C (tgt := 74) dL_accepted_54 (by decide) (fun hc12 => ?_) (fun hc12 => ?_)
          · rw [if_pos hc12] at h
            refine x_iconst C (v := 1) dL_accepted_74 (by decide) ?_
            refine x_goto C (tgt := 79) dL_accepted_75 (by decide) ?_
            refine x_sub [0, 1, 2, 3, 5] rfl ?_
            exact hJ11 (1 : Int32) _ h hA7 hB8
          · rw [if_neg hc12] at h
            refine x_aload_n C dL_accepted_57 rfl 0 rfl ?_
            refine x_aload_n C dL_accepted_58 rfl 1 rfl ?_
            refine x_iload C dL_accepted_59 5 rfl ?_
            obtain ⟨q6, hk13, h⟩ := Option.bind_eq_some_iff.mp h
            refine x_callS C (As := [.ref (sA ek), .ref aA, .int a38.2]) (rest := [.int a38.1]) (lw_g_mk tw_1071 rfl) (okL_booked l cy D B ek xs L hxs hLs _ _ a38.2 a24.2 σ (Y ++ [cAc cy aA a24.2]) pu_0 _ hk13) rfl rfl (by rw [hR9]; decide) (lw_g_mk tw_1072 rfl) (lw_g_mk tw_0 rfl) (by decide) rfl (lw_g_mk tw_1070 rfl) rfl (Nat.le_of_ble_eq_true rfl) dL_accepted_61 ⟨by rw [hRc]; omega, by rw [hRs]; omega⟩ ?_
            refine x_aload_n C dL_accepted_64 rfl 0 rfl ?_
            refine x_iload_n C dL_accepted_65 rfl 3 rfl ?_
            obtain ⟨q7, hk14, h⟩ := Option.bind_eq_some_iff.mp h
            refine x_callS C (As := [.ref (sA ek), .int a24.1]) (rest := [.int q6, .int a38.1]) (lw_g_mk tw_1059 rfl) (okL_people l cy D B ek xs L hxs hLs a24.1 σ (Y ++ [cAc cy aA a24.2]) _ hk14) rfl rfl (by rw [hR9]; decide) (lw_g_mk tw_1060 rfl) (lw_g_mk tw_0 rfl) (by decide) rfl (lw_g_mk tw_1058 rfl) rfl (Nat.le_of_ble_eq_true rfl) dL_accepted_66 ⟨by rw [hRc]; omega, by rw [hRs]; omega⟩ ?_
            refine x_iadd C dL_accepted_69 ?_
            refine x_iload_n C dL_accepted_70 rfl 2 rfl ?_
            refine x_icmp_gt C (tgt := 78) dL_accepted_71 (by decide) (fun hc15 => ?_) (fun hc15 => ?_)
            · rw [if_pos hc15] at h
              refine x_iconst C (v := 0) dL_accepted_78 (by decide) ?_
              refine x_sub [0, 1, 2, 3, 5] rfl ?_
              exact hJ11 (0 : Int32) _ h hA7 hB8
            · rw [if_neg hc15] at h
              refine x_iconst C (v := 1) dL_accepted_74 (by decide) ?_
              refine x_goto C (tgt := 79) dL_accepted_75 (by decide) ?_
              refine x_sub [0, 1, 2, 3, 5] rfl ?_
              exact hJ11 (1 : Int32) _ h hA7 hB8
      · show X p l e R s m args below meth c 6 cy D B (0 + 1) (0 + 8) Q 88 [(0, .ref (sA ek)), (1, .ref aA), (2, .int ((q1 * ((100 : Int32) + q2)) / (100 : Int32))), (3, .int a24.1), (4, .int b38)] [] σ (Y ++ [cAc cy aA a24.2])
        refine x_aload_n C dL_accepted_88 rfl 1 rfl ?_
        refine x_iload_n C dL_accepted_89 rfl 3 rfl ?_
        refine x_iload C dL_accepted_90 4 rfl ?_
        obtain ⟨hg17, h⟩ := gd_some h
        refine x_zast C _ (wl_ex pu_0) hg17 dL_accepted_92 (wl_exs ps_0) ?_
        refine x_iinc C (k := 3) [(3, .int (a24.1 + (1 : Int32))), (0, .ref (sA ek)), (1, .ref aA), (2, .int ((q1 * ((100 : Int32) + q2)) / (100 : Int32))), (4, .int b38)] dL_accepted_93 rfl rfl (by decide) rfl ?_
        refine x_goto C (tgt := 24) dL_accepted_96 (by decide) ?_
        cases h
        refine x_sub [1, 2, 3, 0] rfl ?_
        exact hA3 (a24.1 + (1 : Int32), upd a24.2 a24.1.toNatClampNeg (vp_nar .boolean b38)) rfl
  · show X p l e R s m args below meth c 6 cy D B (0 + 1) (0 + 8) Q 99 [(1, .ref aA)] [] σ (Y ++ [cAc cy aA b24])
    refine x_aload_n C dL_accepted_99 rfl 0 rfl ?_
    cases h
    exact hret _ _ _ _ _ dL_accepted_100 (by omega) (by omega)
