def stL_body_125 (a113 : Int32 × Int32) (q16 : Int32 × Mem) (xs : (Nat → Int32)) (L : Nat) (a125 : Int32) : Option ((Int32) ⊕ ((Unit) ⊕ (Int32))) := (if (7 : Int32) ≤ a125 then (some (.inr (.inl ()))) else ((fX5_booking a113.2 a125 q16.2).bind fun q28 => Sum.elim (fun x29 => ((fL_booking xs L a113.2 a125).bind fun q31 => (if x29 = q31 then (some (.inl (a125 + (1 : Int32)))) else (some (.inr (.inr (0 : Int32))))))) (fun e30 => none) q28))
def jL_body_177 (x33 : Int32) (q26 : (Nat → Int32)) (a113 : Int32 × Int32) (q16 : Int32 × Mem) (t35 : Int32) : Option ((Int32 × Int32) ⊕ ((Int32) ⊕ (Int32))) := (if x33 = t35 then (if (q26 a113.2.toNatClampNeg) = 0 then ((fX5_waiting a113.1 q16.2).bind fun q36 => Sum.elim (fun x37 => (if ¬ x37 = a113.2 then (some (.inr (.inr (0 : Int32)))) else ((fX5_placed a113.2 q16.2).bind fun q39 => Sum.elim (fun x40 => (if ¬ x40 = 0 then (some (.inr (.inr (0 : Int32)))) else ((fX5_pays a113.2 q16.2).bind fun q42 => Sum.elim (fun x43 => (if x43 = 0 then (some (.inl (a113.1 + (1 : Int32), a113.2 + (1 : Int32)))) else (some (.inr (.inr (0 : Int32)))))) (fun e44 => none) q42))) (fun e41 => none) q39))) (fun e38 => none) q36) else (some (.inl (a113.1, a113.2 + (1 : Int32))))) else (some (.inr (.inr (0 : Int32)))))
def stL_body_113 (xs : (Nat → Int32)) (L : Nat) (q16 : Int32 × Mem) (q26 : (Nat → Int32)) (a113 : Int32 × Int32) : Option ((Int32 × Int32) ⊕ ((Int32) ⊕ (Int32))) := ((fL_bookingsOf xs L).bind fun q27 => (if q27 ≤ a113.2 then (some (.inr (.inl a113.1))) else ((loop (stL_body_125 a113 q16 xs L) 9 ((0 : Int32))).bind fun b125 => Sum.elim (fun z125 => ((fX5_state a113.2 q16.2).bind fun q32 => Sum.elim (fun x33 => (gd (inb a113.2 8) (if (q26 a113.2.toNatClampNeg) = 0 then (jL_body_177 x33 q26 a113 q16 (0 : Int32)) else (jL_body_177 x33 q26 a113 q16 (1 : Int32))))) (fun e34 => none) q32)) (fun w125 => (some (.inr (.inr w125)))) b125)))
def stL_body_246 (a234 : Int32) (q16 : Int32 × Mem) (xs : (Nat → Int32)) (L : Nat) (a246 : Int32) : Option ((Int32) ⊕ ((Unit) ⊕ (Int32))) := (if (4 : Int32) ≤ a246 then (some (.inr (.inl ()))) else ((fX5_room a234 a246 q16.2).bind fun q46 => Sum.elim (fun x47 => ((fL_room xs L a234 a246).bind fun q49 => (if x47 = q49 then (some (.inl (a246 + (1 : Int32)))) else (some (.inr (.inr (0 : Int32))))))) (fun e48 => none) q46))
def stL_body_234 (xs : (Nat → Int32)) (L : Nat) (q16 : Int32 × Mem) (a234 : Int32) : Option ((Int32) ⊕ ((Unit) ⊕ (Int32))) := ((fL_roomsOf xs L).bind fun q45 => (if q45 ≤ a234 then (some (.inr (.inl ()))) else ((loop (stL_body_246 a234 q16 xs L) 6 ((0 : Int32))).bind fun b246 => Sum.elim (fun z246 => (some (.inl (a234 + (1 : Int32))))) (fun w246 => (some (.inr (.inr w246)))) b246)))
def jL_body_396 : Option (Int32) := (some (0 : Int32))
def fL_body (xs : Nat → Int32) (L : Nat) (σ : Mem) : Option (Int32) := ((fX5_count (0 : Int32) σ).bind fun q1 => Sum.elim (fun x2 => (if ¬ x2 = 0 then (some (0 : Int32)) else ((fX5_setting (1 : Int32) σ).bind fun q4 => Sum.elim (fun x5 => (if ¬ x5 = (60 : Int32) then (some (0 : Int32)) else ((fX5_setting (2 : Int32) σ).bind fun q7 => Sum.elim (fun x8 => (if ¬ x8 = (7 : Int32) then (some (0 : Int32)) else ((fX5_setting (3 : Int32) σ).bind fun q10 => Sum.elim (fun x11 => (if ¬ x11 = (10 : Int32) then (some (0 : Int32)) else ((fX5_net σ).bind fun q13 => (if ¬ q13 = 0 then (some (0 : Int32)) else ((fX5_fullNights σ).bind fun q14 => (if q14 = 0 then ((fT_text xs L).bind fun q15 => ((fL_load q15.1 q15.2 σ).bind fun q16 => ((fL_bookingsOf xs L).bind fun q17 => (if ¬ q16.1 = q17 then (some (0 : Int32)) else ((fX5_count (0 : Int32) q16.2).bind fun q18 => Sum.elim (fun x19 => ((fL_roomsOf xs L).bind fun q21 => (if ¬ x19 = q21 then (some (0 : Int32)) else ((fX5_count (1 : Int32) q16.2).bind fun q22 => Sum.elim (fun x23 => ((fL_beds xs L).bind fun q25 => (if x23 = q25 then ((fL_accepted xs L).bind fun q26 => ((loop (stL_body_113 xs L q16 q26) 9 ((0 : Int32), (0 : Int32))).bind fun b113 => Sum.elim (fun z113 => ((loop (stL_body_234 xs L q16) 6 ((0 : Int32))).bind fun b234 => Sum.elim (fun z234 => ((fX5_count (3 : Int32) q16.2).bind fun q50 => Sum.elim (fun x51 => (if ¬ x51 = z113 then (some (0 : Int32)) else ((fL_isHostel xs L q16.2 q26).bind fun q53 => (if q53 = 0 then (some (0 : Int32)) else ((fL_cell xs L (13 : Int32)).bind fun q54 => ((fL_part q54 (30 : Int32)).bind fun q55 => ((fL_areChances xs L q55 q16.2 q26).bind fun q56 => (if ¬ q56.1 = 0 then ((fL_bookingsOf xs L).bind fun q57 => ((fL_noBed q57 (0 : Int32) q56.2).bind fun q58 => ((fL_noNumber (-1 : Int32) (0 : Int32) q56.2).bind fun q59 => ((fL_bookingsOf xs L).bind fun q60 => ((fL_noNumber q60 (9 : Int32) q56.2).bind fun q61 => (if ¬ ((q58 + q59) + q61) = (3 : Int32) then (jL_body_396) else ((fL_bookingsOf xs L).bind fun q62 => (if q62 = 0 then (some (1 : Int32)) else ((fL_noNumber (0 : Int32) (8 : Int32) q56.2).bind fun q63 => (if ¬ q63 = (2 : Int32) then (jL_body_396) else ((fL_people xs L (0 : Int32)).bind fun q64 => ((fL_noBed (0 : Int32) q64 q56.2).bind fun q65 => (if ¬ q65 = (1 : Int32) then (jL_body_396) else (some (1 : Int32))))))))))))))) else (some (0 : Int32)))))))))) (fun e52 => none) q50)) (fun w234 => (some w234)) b234)) (fun w113 => (some w113)) b113)) else (some (0 : Int32))))) (fun e24 => none) q22)))) (fun e20 => none) q18))))) else (some (0 : Int32)))))))) (fun e12 => none) q10))) (fun e9 => none) q7))) (fun e6 => none) q4))) (fun e3 => none) q1)
set_option maxHeartbeats 8000000 in
set_option maxRecDepth 100000 in
theorem okL_body {p : Program} {l : Launch} {e : Env} {R : Room} {s : State} {m : MethodId} {args : Array Value} {below : List Frame} {meth : Method} {c : Code} {cy : Nat → ClassId} {D : va_G} {B : Nat} {ek : EK} {Q : State → Prop} (C : Cx p s m args c 6 cy D B ek "HostelBedsLaw" cL_law) (hlf : l.stackTraces = false) (hR9 : R = room_1) {xs : Nat → Int32} {L : Nat} (hxs : xs = sX ek) (hLs : L = sL ek) (nc ns : Nat) (hnc : nc ≤ 380) (hns : ns ≤ 5516) (σ : Mem) (Y : va_W) (res : Int32) (h : fL_body xs L σ = some res) (hret : ∀ (cells9 slots9 pc9 : Nat) (lcs9 : List (Nat × Value)) (σ9 : Mem) (Y9 : va_W), decode cL_law pc9 = .ok (.ireturn, 1) → cells9 ≤ 18467 → slots9 ≤ 595971 → X p l e R s m args below meth c 6 cy D B cells9 slots9 Q pc9 lcs9 [.int res] σ9 Y9) : X p l e R s m args below meth c 6 cy D B nc ns Q 8 [(1, .ref (B + oHB)), (0, .ref (sA ek))] [] σ Y := by
  have hRc : R.cells = 600074 := by rw [hR9]; rfl
  have hRs : R.slots = 7301550 := by rw [hR9]; rfl
  unfold fL_body at h
  refine x_aload_n C dL_law_8 rfl 0 rfl ?_
  refine x_iconst C (v := 0) dL_law_9 (by decide) ?_
  obtain ⟨q1, hk1, h⟩ := Option.bind_eq_some_iff.mp h
  refine x_callVX C (As := [.int (0 : Int32)]) (rest := []) (cells2 := (nc + 1)) (slots2 := (ns + 6)) (lw_g_mk tw_323 rfl) (lw_g_mk tw_324 rfl) (c_HB) (C1 := "HostelBeds") (T := TX5) (N := 12) (ci := 7) rfl (okX5_count l hlf cy D B ek (0 : Int32) σ Y _ hk1) rfl rfl (by rw [hR9]; decide) (lw_g_mk tw_325 rfl) (lw_g_mk tw_1 rfl) (by decide) rfl (lw_g_mk tw_322 rfl) rfl (Nat.le_of_ble_eq_true rfl) dL_law_10 ⟨by rw [hRc]; omega, by rw [hRs]; omega⟩ rfl rfl (fun v2 hv3 => ?_) (fun k4 hv5 => ?_)
  · rcases q1 with x2 | e3
    · rw [Sum.elim_inl] at h
      have hv3 : (Sum.inl (some (Value.int x2)) : Option Value ⊕ Nat) = .inl v2 := hv3
      cases hv3
      refine x_if_ne C (tgt := 60) dL_law_13 (by decide) (fun hc7 => ?_) (fun hc7 => ?_)
      · rw [if_pos hc7] at h
        refine x_iconst C (v := 0) dL_law_60 (by decide) ?_
        obtain rfl := Option.some.inj h
        exact hret _ _ _ _ _ _ dL_law_61 (by omega) (by omega)
      · rw [if_neg hc7] at h
        refine x_aload_n C dL_law_16 rfl 0 rfl ?_
        refine x_iconst C (v := 1) dL_law_17 (by decide) ?_
        obtain ⟨q4, hk8, h⟩ := Option.bind_eq_some_iff.mp h
        refine x_callVX C (As := [.int (1 : Int32)]) (rest := []) (cells2 := ((nc + 1) + 1)) (slots2 := ((ns + 6) + 6)) (lw_g_mk tw_399 rfl) (lw_g_mk tw_400 rfl) (c_HB) (C1 := "HostelBeds") (T := TX5) (N := 12) (ci := 7) rfl (okX5_setting l hlf cy D B ek (1 : Int32) σ Y _ hk8) rfl rfl (by rw [hR9]; decide) (lw_g_mk tw_401 rfl) (lw_g_mk tw_1 rfl) (by decide) rfl (lw_g_mk tw_398 rfl) rfl (Nat.le_of_ble_eq_true rfl) dL_law_18 ⟨by rw [hRc]; omega, by rw [hRs]; omega⟩ rfl rfl (fun v9 hv10 => ?_) (fun k11 hv12 => ?_)
        · rcases q4 with x5 | e6
          · rw [Sum.elim_inl] at h
            have hv10 : (Sum.inl (some (Value.int x5)) : Option Value ⊕ Nat) = .inl v9 := hv10
            cases hv10
            refine x_bipush C (v := 60) dL_law_21 (by decide) ?_
            refine x_icmp_ne C (tgt := 60) dL_law_23 (by decide) (fun hc14 => ?_) (fun hc14 => ?_)
            · rw [if_pos hc14] at h
              refine x_iconst C (v := 0) dL_law_60 (by decide) ?_
              obtain rfl := Option.some.inj h
              exact hret _ _ _ _ _ _ dL_law_61 (by omega) (by omega)
            · rw [if_neg hc14] at h
              refine x_aload_n C dL_law_26 rfl 0 rfl ?_
              refine x_iconst C (v := 2) dL_law_27 (by decide) ?_
              obtain ⟨q7, hk15, h⟩ := Option.bind_eq_some_iff.mp h
              refine x_callVX C (As := [.int (2 : Int32)]) (rest := []) (cells2 := (((nc + 1) + 1) + 1)) (slots2 := (((ns + 6) + 6) + 6)) (lw_g_mk tw_399 rfl) (lw_g_mk tw_400 rfl) (c_HB) (C1 := "HostelBeds") (T := TX5) (N := 12) (ci := 7) rfl (okX5_setting l hlf cy D B ek (2 : Int32) σ Y _ hk15) rfl rfl (by rw [hR9]; decide) (lw_g_mk tw_401 rfl) (lw_g_mk tw_1 rfl) (by decide) rfl (lw_g_mk tw_398 rfl) rfl (Nat.le_of_ble_eq_true rfl) dL_law_28 ⟨by rw [hRc]; omega, by rw [hRs]; omega⟩ rfl rfl (fun v16 hv17 => ?_) (fun k18 hv19 => ?_)
              · rcases q7 with x8 | e9
                · rw [Sum.elim_inl] at h
                  have hv17 : (Sum.inl (some (Value.int x8)) : Option Value ⊕ Nat) = .inl v16 := hv17
                  cases hv17
                  refine x_bipush C (v := 7) dL_law_31 (by decide) ?_
                  refine x_icmp_ne C (tgt := 60) dL_law_33 (by decide) (fun hc21 => ?_) (fun hc21 => ?_)
                  · rw [if_pos hc21] at h
                    refine x_iconst C (v := 0) dL_law_60 (by decide) ?_
                    obtain rfl := Option.some.inj h
                    exact hret _ _ _ _ _ _ dL_law_61 (by omega) (by omega)
                  · rw [if_neg hc21] at h
                    refine x_aload_n C dL_law_36 rfl 0 rfl ?_
                    refine x_iconst C (v := 3) dL_law_37 (by decide) ?_
                    obtain ⟨q10, hk22, h⟩ := Option.bind_eq_some_iff.mp h
                    refine x_callVX C (As := [.int (3 : Int32)]) (rest := []) (cells2 := ((((nc + 1) + 1) + 1) + 1)) (slots2 := ((((ns + 6) + 6) + 6) + 6)) (lw_g_mk tw_399 rfl) (lw_g_mk tw_400 rfl) (c_HB) (C1 := "HostelBeds") (T := TX5) (N := 12) (ci := 7) rfl (okX5_setting l hlf cy D B ek (3 : Int32) σ Y _ hk22) rfl rfl (by rw [hR9]; decide) (lw_g_mk tw_401 rfl) (lw_g_mk tw_1 rfl) (by decide) rfl (lw_g_mk tw_398 rfl) rfl (Nat.le_of_ble_eq_true rfl) dL_law_38 ⟨by rw [hRc]; omega, by rw [hRs]; omega⟩ rfl rfl (fun v23 hv24 => ?_) (fun k25 hv26 => ?_)
                    · rcases q10 with x11 | e12
                      · rw [Sum.elim_inl] at h
                        have hv24 : (Sum.inl (some (Value.int x11)) : Option Value ⊕ Nat) = .inl v23 := hv24
                        cases hv24
                        refine x_bipush C (v := 10) dL_law_41 (by decide) ?_
                        refine x_icmp_ne C (tgt := 60) dL_law_43 (by decide) (fun hc28 => ?_) (fun hc28 => ?_)
                        · rw [if_pos hc28] at h
                          refine x_iconst C (v := 0) dL_law_60 (by decide) ?_
                          obtain rfl := Option.some.inj h
                          exact hret _ _ _ _ _ _ dL_law_61 (by omega) (by omega)
                        · rw [if_neg hc28] at h
                          refine x_aload_n C dL_law_46 rfl 0 rfl ?_
                          obtain ⟨q13, hk29, h⟩ := Option.bind_eq_some_iff.mp h
                          refine x_callV C (As := []) (rest := []) (lw_g_mk tw_472 rfl) (lw_g_mk tw_473 rfl) (c_HB) (C1 := "HostelBeds") (T := TX5) (N := 12) (ci := 7) rfl (okX5_net l cy D B ek σ Y _ hk29) rfl rfl (by rw [hR9]; decide) (lw_g_mk tw_474 rfl) (lw_g_mk tw_1 rfl) (by decide) rfl (lw_g_mk tw_471 rfl) rfl (Nat.le_of_ble_eq_true rfl) dL_law_47 ⟨by rw [hRc]; omega, by rw [hRs]; omega⟩ ?_
                          refine x_if_ne C (tgt := 60) dL_law_50 (by decide) (fun hc30 => ?_) (fun hc30 => ?_)
                          · rw [if_pos hc30] at h
                            refine x_iconst C (v := 0) dL_law_60 (by decide) ?_
                            obtain rfl := Option.some.inj h
                            exact hret _ _ _ _ _ _ dL_law_61 (by omega) (by omega)
                          · rw [if_neg hc30] at h
                            refine x_aload_n C dL_law_53 rfl 0 rfl ?_
                            obtain ⟨q14, hk31, h⟩ := Option.bind_eq_some_iff.mp h
                            refine x_callV C (As := []) (rest := []) (lw_g_mk tw_452 rfl) (lw_g_mk tw_453 rfl) (c_HB) (C1 := "HostelBeds") (T := TX5) (N := 12) (ci := 7) rfl (okX5_fullNights l cy D B ek σ Y _ hk31) rfl rfl (by rw [hR9]; decide) (lw_g_mk tw_454 rfl) (lw_g_mk tw_1 rfl) (by decide) rfl (lw_g_mk tw_451 rfl) rfl (Nat.le_of_ble_eq_true rfl) dL_law_54 ⟨by rw [hRc]; omega, by rw [hRs]; omega⟩ ?_
                            refine x_if_eq C (tgt := 62) dL_law_57 (by decide) (fun hc32 => ?_) (fun hc32 => ?_)
                            · rw [if_pos hc32] at h
                              refine x_aload_n C dL_law_62 rfl 0 rfl ?_
                              refine x_aload_n C dL_law_63 rfl 1 rfl ?_
                              obtain ⟨q15, hk33, h⟩ := Option.bind_eq_some_iff.mp h
                              refine x_callSE C (As := [.ref (sA ek)]) (rest := [.ref (B + oHB)]) (lw_g_mk tw_774 rfl) (okL_text l cy D B ek xs L hxs hLs σ Y _ hk33) rfl rfl (by rw [hR9]; decide) (lw_g_mk tw_775 rfl) (lw_g_mk tw_0 rfl) (by decide) rfl (lw_g_mk tw_773 rfl) rfl (Nat.le_of_ble_eq_true rfl) dL_law_64 ⟨by rw [hRc]; omega, by rw [hRs]; omega⟩ (fun v9 σ9 Y9 hp9 => ?_)
                              obtain ⟨aZ, aN, e7, e8, e9⟩ := hp9
                              rw [e7, e8, e9]
                              obtain ⟨q16, hk34, h⟩ := Option.bind_eq_some_iff.mp h
                              refine x_callSE C (As := [.ref (B + oHB), .ref aZ]) (rest := []) (lw_g_mk tw_483 rfl) (okL_load l hlf cy D B ek aZ aN Y.length (Y.length + 1) 0 0 q15.1 q15.2 σ (Y ++ [cNS aZ (.ref aN), cBy cy aN q15.1 q15.2]) pu_0 pu_1 _ hk34) rfl rfl (by rw [hR9]; decide) (lw_g_mk tw_484 rfl) (lw_g_mk tw_0 rfl) (by decide) rfl (lw_g_mk tw_482 rfl) rfl (Nat.le_of_ble_eq_true rfl) dL_law_67 ⟨by rw [hRc]; omega, by rw [hRs]; omega⟩ (fun v9 σ9 Y9 hp9 => ?_)
                              obtain ⟨e7, e8, e9⟩ := hp9
                              rw [e7, e8, e9]
                              refine x_drop _ ?_
                              refine x_aload_n C dL_law_70 rfl 1 rfl ?_
                              obtain ⟨q17, hk35, h⟩ := Option.bind_eq_some_iff.mp h
                              refine x_callS C (As := [.ref (sA ek)]) (rest := [.int q16.1]) (lw_g_mk tw_767 rfl) (okL_bookingsOf l cy D B ek xs L hxs hLs q16.2 Y _ hk35) rfl rfl (by rw [hR9]; decide) (lw_g_mk tw_768 rfl) (lw_g_mk tw_0 rfl) (by decide) rfl (lw_g_mk tw_766 rfl) rfl (Nat.le_of_ble_eq_true rfl) dL_law_71 ⟨by rw [hRc]; omega, by rw [hRs]; omega⟩ ?_
                              refine x_icmp_ne C (tgt := 101) dL_law_74 (by decide) (fun hc36 => ?_) (fun hc36 => ?_)
                              · rw [if_pos hc36] at h
                                refine x_iconst C (v := 0) dL_law_101 (by decide) ?_
                                obtain rfl := Option.some.inj h
                                exact hret _ _ _ _ _ _ dL_law_102 (by omega) (by omega)
                              · rw [if_neg hc36] at h
                                refine x_aload_n C dL_law_77 rfl 0 rfl ?_
                                refine x_iconst C (v := 0) dL_law_78 (by decide) ?_
                                obtain ⟨q18, hk37, h⟩ := Option.bind_eq_some_iff.mp h
                                refine x_callVX C (As := [.int (0 : Int32)]) (rest := []) (cells2 := (((((((nc + 1) + 1) + 1) + 1) + 251) + 43) + 1)) (slots2 := (((((((ns + 6) + 6) + 6) + 6) + 496011) + 238) + 6)) (lw_g_mk tw_323 rfl) (lw_g_mk tw_324 rfl) (c_HB) (C1 := "HostelBeds") (T := TX5) (N := 12) (ci := 7) rfl (okX5_count l hlf cy D B ek (0 : Int32) q16.2 Y _ hk37) rfl rfl (by rw [hR9]; decide) (lw_g_mk tw_325 rfl) (lw_g_mk tw_1 rfl) (by decide) rfl (lw_g_mk tw_322 rfl) rfl (Nat.le_of_ble_eq_true rfl) dL_law_79 ⟨by rw [hRc]; omega, by rw [hRs]; omega⟩ rfl rfl (fun v38 hv39 => ?_) (fun k40 hv41 => ?_)
                                · rcases q18 with x19 | e20
                                  · rw [Sum.elim_inl] at h
                                    have hv39 : (Sum.inl (some (Value.int x19)) : Option Value ⊕ Nat) = .inl v38 := hv39
                                    cases hv39
                                    refine x_aload_n C dL_law_82 rfl 1 rfl ?_
                                    obtain ⟨q21, hk43, h⟩ := Option.bind_eq_some_iff.mp h
                                    refine x_callS C (As := [.ref (sA ek)]) (rest := [.int x19]) (lw_g_mk tw_761 rfl) (okL_roomsOf l cy D B ek xs L hxs hLs q16.2 Y _ hk43) rfl rfl (by rw [hR9]; decide) (lw_g_mk tw_762 rfl) (lw_g_mk tw_0 rfl) (by decide) rfl (lw_g_mk tw_760 rfl) rfl (Nat.le_of_ble_eq_true rfl) dL_law_83 ⟨by rw [hRc]; omega, by rw [hRs]; omega⟩ ?_
                                    refine x_icmp_ne C (tgt := 101) dL_law_86 (by decide) (fun hc44 => ?_) (fun hc44 => ?_)
                                    · rw [if_pos hc44] at h
                                      refine x_iconst C (v := 0) dL_law_101 (by decide) ?_
                                      obtain rfl := Option.some.inj h
                                      exact hret _ _ _ _ _ _ dL_law_102 (by omega) (by omega)
                                    · rw [if_neg hc44] at h
                                      refine x_aload_n C dL_law_89 rfl 0 rfl ?_
                                      refine x_iconst C (v := 1) dL_law_90 (by decide) ?_
                                      obtain ⟨q22, hk45, h⟩ := Option.bind_eq_some_iff.mp h
                                      refine x_callVX C (As := [.int (1 : Int32)]) (rest := []) (cells2 := ((((((((nc + 1) + 1) + 1) + 1) + 251) + 43) + 1) + 1)) (slots2 := ((((((((ns + 6) + 6) + 6) + 6) + 496011) + 238) + 6) + 6)) (lw_g_mk tw_323 rfl) (lw_g_mk tw_324 rfl) (c_HB) (C1 := "HostelBeds") (T := TX5) (N := 12) (ci := 7) rfl (okX5_count l hlf cy D B ek (1 : Int32) q16.2 Y _ hk45) rfl rfl (by rw [hR9]; decide) (lw_g_mk tw_325 rfl) (lw_g_mk tw_1 rfl) (by decide) rfl (lw_g_mk tw_322 rfl) rfl (Nat.le_of_ble_eq_true rfl) dL_law_91 ⟨by rw [hRc]; omega, by rw [hRs]; omega⟩ rfl rfl (fun v46 hv47 => ?_) (fun k48 hv49 => ?_)
                                      · rcases q22 with x23 | e24
                                        · rw [Sum.elim_inl] at h
                                          have hv47 : (Sum.inl (some (Value.int x23)) : Option Value ⊕ Nat) = .inl v46 := hv47
                                          cases hv47
                                          refine x_aload_n C dL_law_94 rfl 1 rfl ?_
                                          obtain ⟨q25, hk51, h⟩ := Option.bind_eq_some_iff.mp h
                                          refine x_callS C (As := [.ref (sA ek)]) (rest := [.int x23]) (lw_g_mk tw_1062 rfl) (okL_beds l cy D B ek xs L hxs hLs q16.2 Y _ hk51) rfl rfl (by rw [hR9]; decide) (lw_g_mk tw_1063 rfl) (lw_g_mk tw_0 rfl) (by decide) rfl (lw_g_mk tw_1061 rfl) rfl (Nat.le_of_ble_eq_true rfl) dL_law_95 ⟨by rw [hRc]; omega, by rw [hRs]; omega⟩ ?_
                                          refine x_icmp_eq C (tgt := 103) dL_law_98 (by decide) (fun hc52 => ?_) (fun hc52 => ?_)
                                          · rw [if_pos hc52] at h
                                            refine x_aload_n C dL_law_103 rfl 1 rfl ?_
                                            obtain ⟨q26, hk53, h⟩ := Option.bind_eq_some_iff.mp h
                                            refine x_callSE C (As := [.ref (sA ek)]) (rest := []) (lw_g_mk tw_1065 rfl) (okL_accepted l cy D B ek xs L hxs hLs q16.2 Y _ hk53) rfl rfl (by rw [hR9]; decide) (lw_g_mk tw_1066 rfl) (lw_g_mk tw_0 rfl) (by decide) rfl (lw_g_mk tw_1064 rfl) rfl (Nat.le_of_ble_eq_true rfl) dL_law_104 ⟨by rw [hRc]; omega, by rw [hRs]; omega⟩ (fun v9 σ9 Y9 hp9 => ?_)
                                            obtain ⟨aA, e7, e8, e9⟩ := hp9
                                            rw [e7, e8, e9]
                                            refine x_astore_n C [(2, .ref aA), (1, .ref (B + oHB)), (0, .ref (sA ek))] dL_law_107 rfl (by decide) rfl ?_
                                            refine x_iconst C (v := 0) dL_law_108 (by decide) ?_
                                            refine x_istore_n C [(3, .int (0 : Int32)), (2, .ref aA), (1, .ref (B + oHB)), (0, .ref (sA ek))] dL_law_109 rfl (by decide) rfl ?_
                                            refine x_iconst C (v := 0) dL_law_110 (by decide) ?_
                                            refine x_istore C [(4, .int (0 : Int32)), (3, .int (0 : Int32)), (2, .ref aA), (1, .ref (B + oHB)), (0, .ref (sA ek))] dL_law_111 (by decide) rfl ?_
                                            obtain ⟨b113, hk107, h⟩ := Option.bind_eq_some_iff.mp h
                                            refine x_sub [4, 3, 2, 1, 0] rfl ?_
                                            refine x_widen (cells2 := ((((((((((nc + 1) + 1) + 1) + 1) + 251) + 43) + 1) + 1) + 1) + (9 - 9) * 22)) (slots2 := ((((((((((ns + 6) + 6) + 6) + 6) + 496011) + 238) + 6) + 6) + 8) + (9 - 9) * 132)) (by omega) (by omega) ?_
                                            refine loop_runN (N := 9) (step := stL_body_113 xs L q16 q26) (P := fun (n113 : Nat) (a113 : Int32 × Int32) => X p l e R s m args below meth c 6 cy D B ((((((((((nc + 1) + 1) + 1) + 1) + 251) + 43) + 1) + 1) + 1) + (9 - n113) * 22) ((((((((((ns + 6) + 6) + 6) + 6) + 496011) + 238) + 6) + 6) + 8) + (9 - n113) * 132) Q 113 [(0, .ref (sA ek)), (1, .ref (B + oHB)), (2, .ref aA), (3, .int a113.1), (4, .int a113.2)] [] q16.2 (Y ++ [cAc cy aA q26])) (K := fun (b113 : (Int32) ⊕ (Int32)) => Sum.elim (fun z113 => X p l e R s m args below meth c 6 cy D B ((((((((((nc + 1) + 1) + 1) + 1) + 251) + 43) + 1) + 1) + 1) + 198) ((((((((((ns + 6) + 6) + 6) + 6) + 496011) + 238) + 6) + 6) + 8) + 1188) Q 231 [(0, .ref (sA ek)), (1, .ref (B + oHB)), (2, .ref aA), (3, .int z113)] [] q16.2 (Y ++ [cAc cy aA q26])) (fun w113 => ∀ (cells9 slots9 pc9 : Nat) (lcs9 : List (Nat × Value)) (σ9 : Mem) (Y9 : va_W), decode cL_law pc9 = .ok (.ireturn, 1) → cells9 ≤ 18467 → slots9 ≤ 595971 → X p l e R s m args below meth c 6 cy D B cells9 slots9 Q pc9 lcs9 [.int w113] σ9 Y9) b113) ?_ 9 ((0 : Int32), (0 : Int32)) b113 (Nat.le_refl _) hk107 ?_
                                            · intro n113 a113 r hn113 h hA54 hB55
                                              unfold stL_body_113 at h
                                              refine x_iload C dL_law_113 4 rfl ?_
                                              refine x_aload_n C dL_law_115 rfl 0 rfl ?_
                                              obtain ⟨q27, hk56, h⟩ := Option.bind_eq_some_iff.mp h
                                              refine x_callS C (As := [.ref (sA ek)]) (rest := [.int a113.2]) (lw_g_mk tw_767 rfl) (okL_bookingsOf l cy D B ek xs L hxs hLs q16.2 (Y ++ [cAc cy aA q26]) _ hk56) rfl rfl (by rw [hR9]; decide) (lw_g_mk tw_768 rfl) (lw_g_mk tw_0 rfl) (by decide) rfl (lw_g_mk tw_766 rfl) rfl (Nat.le_of_ble_eq_true rfl) dL_law_116 ⟨by rw [hRc]; omega, by rw [hRs]; omega⟩ ?_
                                              refine x_icmp_ge C (tgt := 231) dL_law_119 (by decide) (fun hc57 => ?_) (fun hc57 => ?_)
                                              · rw [if_pos hc57] at h
                                                cases h
                                                refine x_widen (cells2 := ((((((((((nc + 1) + 1) + 1) + 1) + 251) + 43) + 1) + 1) + 1) + 198)) (slots2 := ((((((((((ns + 6) + 6) + 6) + 6) + 496011) + 238) + 6) + 6) + 8) + 1188)) (by omega) (by omega) ?_
                                                refine x_sub [0, 1, 2, 3] rfl ?_
                                                exact hB55 (.inl a113.1) rfl
                                              · rw [if_neg hc57] at h
                                                refine x_iconst C (v := 0) dL_law_122 (by decide) ?_
                                                refine x_istore C [(5, .int (0 : Int32)), (0, .ref (sA ek)), (1, .ref (B + oHB)), (2, .ref aA), (3, .int a113.1), (4, .int a113.2)] dL_law_123 (by decide) rfl ?_
                                                obtain ⟨b125, hk70, h⟩ := Option.bind_eq_some_iff.mp h
                                                refine x_sub [1, 2, 3, 4, 5, 0] rfl ?_
                                                refine x_widen (cells2 := (((((((((((nc + 1) + 1) + 1) + 1) + 251) + 43) + 1) + 1) + 1) + (9 - (n113 + 1)) * 22) + (9 - 9) * 2)) (slots2 := (((((((((((ns + 6) + 6) + 6) + 6) + 496011) + 238) + 6) + 6) + 8) + (9 - (n113 + 1)) * 132) + (9 - 9) * 12)) (by omega) (by omega) ?_
                                                refine loop_runN (N := 9) (step := stL_body_125 a113 q16 xs L) (P := fun (n125 : Nat) (a125 : Int32) => X p l e R s m args below meth c 6 cy D B (((((((((((nc + 1) + 1) + 1) + 1) + 251) + 43) + 1) + 1) + 1) + (9 - (n113 + 1)) * 22) + (9 - n125) * 2) (((((((((((ns + 6) + 6) + 6) + 6) + 496011) + 238) + 6) + 6) + 8) + (9 - (n113 + 1)) * 132) + (9 - n125) * 12) Q 125 [(0, .ref (sA ek)), (1, .ref (B + oHB)), (2, .ref aA), (3, .int a113.1), (4, .int a113.2), (5, .int a125)] [] q16.2 (Y ++ [cAc cy aA q26])) (K := fun (b125 : (Unit) ⊕ (Int32)) => Sum.elim (fun z125 => X p l e R s m args below meth c 6 cy D B (((((((((((nc + 1) + 1) + 1) + 1) + 251) + 43) + 1) + 1) + 1) + (9 - (n113 + 1)) * 22) + 18) (((((((((((ns + 6) + 6) + 6) + 6) + 496011) + 238) + 6) + 6) + 8) + (9 - (n113 + 1)) * 132) + 108) Q 159 [(0, .ref (sA ek)), (1, .ref (B + oHB)), (2, .ref aA), (3, .int a113.1), (4, .int a113.2)] [] q16.2 (Y ++ [cAc cy aA q26])) (fun w125 => ∀ (cells9 slots9 pc9 : Nat) (lcs9 : List (Nat × Value)) (σ9 : Mem) (Y9 : va_W), decode cL_law pc9 = .ok (.ireturn, 1) → cells9 ≤ 18467 → slots9 ≤ 595971 → X p l e R s m args below meth c 6 cy D B cells9 slots9 Q pc9 lcs9 [.int w125] σ9 Y9) b125) ?_ 9 ((0 : Int32)) b125 (Nat.le_refl _) hk70 ?_
                                                · intro n125 a125 r hn125 h hA58 hB59
                                                  unfold stL_body_125 at h
                                                  refine x_iload C dL_law_125 5 rfl ?_
                                                  refine x_bipush C (v := 7) dL_law_127 (by decide) ?_
                                                  refine x_icmp_ge C (tgt := 159) dL_law_129 (by decide) (fun hc60 => ?_) (fun hc60 => ?_)
                                                  · rw [if_pos hc60] at h
                                                    cases h
                                                    refine x_widen (cells2 := (((((((((((nc + 1) + 1) + 1) + 1) + 251) + 43) + 1) + 1) + 1) + (9 - (n113 + 1)) * 22) + 18)) (slots2 := (((((((((((ns + 6) + 6) + 6) + 6) + 496011) + 238) + 6) + 6) + 8) + (9 - (n113 + 1)) * 132) + 108)) (by omega) (by omega) ?_
                                                    refine x_sub [0, 1, 2, 3, 4] rfl ?_
                                                    exact hB59 (.inl ()) rfl
                                                  · rw [if_neg hc60] at h
                                                    refine x_aload_n C dL_law_132 rfl 1 rfl ?_
                                                    refine x_iload C dL_law_133 4 rfl ?_
                                                    refine x_iload C dL_law_135 5 rfl ?_
                                                    obtain ⟨q28, hk61, h⟩ := Option.bind_eq_some_iff.mp h
                                                    refine x_callVX C (As := [.int a113.2, .int a125]) (rest := []) (cells2 := ((((((((((((nc + 1) + 1) + 1) + 1) + 251) + 43) + 1) + 1) + 1) + (9 - (n113 + 1)) * 22) + (9 - (n125 + 1)) * 2) + 2)) (slots2 := ((((((((((((ns + 6) + 6) + 6) + 6) + 496011) + 238) + 6) + 6) + 8) + (9 - (n113 + 1)) * 132) + (9 - (n125 + 1)) * 12) + 12)) (lw_g_mk tw_429 rfl) (lw_g_mk tw_430 rfl) (c_HB) (C1 := "HostelBeds") (T := TX5) (N := 12) (ci := 7) rfl (okX5_booking l hlf cy D B ek a113.2 a125 q16.2 (Y ++ [cAc cy aA q26]) _ hk61) rfl rfl (by rw [hR9]; decide) (lw_g_mk tw_431 rfl) (lw_g_mk tw_1 rfl) (by decide) rfl (lw_g_mk tw_428 rfl) rfl (Nat.le_of_ble_eq_true rfl) dL_law_137 ⟨by rw [hRc]; omega, by rw [hRs]; omega⟩ rfl rfl (fun v62 hv63 => ?_) (fun k64 hv65 => ?_)
                                                    · rcases q28 with x29 | e30
                                                      · rw [Sum.elim_inl] at h
                                                        have hv63 : (Sum.inl (some (Value.int x29)) : Option Value ⊕ Nat) = .inl v62 := hv63
                                                        cases hv63
                                                        refine x_aload_n C dL_law_140 rfl 0 rfl ?_
                                                        refine x_iload C dL_law_141 4 rfl ?_
                                                        refine x_iload C dL_law_143 5 rfl ?_
                                                        obtain ⟨q31, hk67, h⟩ := Option.bind_eq_some_iff.mp h
                                                        refine x_callS C (As := [.ref (sA ek), .int a113.2, .int a125]) (rest := [.int x29]) (lw_g_mk tw_770 rfl) (okL_booking l cy D B ek xs L hxs hLs a113.2 a125 q16.2 (Y ++ [cAc cy aA q26]) _ hk67) rfl rfl (by rw [hR9]; decide) (lw_g_mk tw_771 rfl) (lw_g_mk tw_0 rfl) (by decide) rfl (lw_g_mk tw_769 rfl) rfl (Nat.le_of_ble_eq_true rfl) dL_law_145 ⟨by rw [hRc]; omega, by rw [hRs]; omega⟩ ?_
                                                        refine x_icmp_eq C (tgt := 153) dL_law_148 (by decide) (fun hc68 => ?_) (fun hc68 => ?_)
                                                        · rw [if_pos hc68] at h
                                                          refine x_iinc C (k := 5) [(5, .int (a125 + (1 : Int32))), (0, .ref (sA ek)), (1, .ref (B + oHB)), (2, .ref aA), (3, .int a113.1), (4, .int a113.2)] dL_law_153 rfl rfl (by decide) rfl ?_
                                                          refine x_goto C (tgt := 125) dL_law_156 (by decide) ?_
                                                          cases h
                                                          refine x_widen (cells2 := (((((((((((nc + 1) + 1) + 1) + 1) + 251) + 43) + 1) + 1) + 1) + (9 - (n113 + 1)) * 22) + (9 - n125) * 2)) (slots2 := (((((((((((ns + 6) + 6) + 6) + 6) + 496011) + 238) + 6) + 6) + 8) + (9 - (n113 + 1)) * 132) + (9 - n125) * 12)) (by omega) (by omega) ?_
                                                          refine x_sub [1, 2, 3, 4, 5, 0] rfl ?_
                                                          exact hA58 (a125 + (1 : Int32)) rfl
                                                        · rw [if_neg hc68] at h
                                                          refine x_iconst C (v := 0) dL_law_151 (by decide) ?_
                                                          cases h
                                                          exact hB59 (.inr (0 : Int32)) rfl _ _ _ _ _ _ dL_law_152 (by omega) (by omega)
                                                      · cases hv63
                                                    · rcases q28 with x29 | e30
                                                      · cases hv65
                                                      · rw [Sum.elim_inr] at h
                                                        cases h
                                                · rcases b125 with z125 | w125
                                                  · rw [Sum.elim_inl] at h
                                                    show X p l e R s m args below meth c 6 cy D B (((((((((((nc + 1) + 1) + 1) + 1) + 251) + 43) + 1) + 1) + 1) + (9 - (n113 + 1)) * 22) + 18) (((((((((((ns + 6) + 6) + 6) + 6) + 496011) + 238) + 6) + 6) + 8) + (9 - (n113 + 1)) * 132) + 108) Q 159 [(0, .ref (sA ek)), (1, .ref (B + oHB)), (2, .ref aA), (3, .int a113.1), (4, .int a113.2)] [] q16.2 (Y ++ [cAc cy aA q26])
                                                    refine x_aload_n C dL_law_159 rfl 1 rfl ?_
                                                    refine x_iload C dL_law_160 4 rfl ?_
                                                    obtain ⟨q32, hk71, h⟩ := Option.bind_eq_some_iff.mp h
                                                    refine x_callVX C (As := [.int a113.2]) (rest := []) (cells2 := ((((((((((((nc + 1) + 1) + 1) + 1) + 251) + 43) + 1) + 1) + 1) + (9 - (n113 + 1)) * 22) + 18) + 1)) (slots2 := ((((((((((((ns + 6) + 6) + 6) + 6) + 496011) + 238) + 6) + 6) + 8) + (9 - (n113 + 1)) * 132) + 108) + 6)) (lw_g_mk tw_439 rfl) (lw_g_mk tw_440 rfl) (c_HB) (C1 := "HostelBeds") (T := TX5) (N := 12) (ci := 7) rfl (okX5_state l hlf cy D B ek a113.2 q16.2 (Y ++ [cAc cy aA q26]) _ hk71) rfl rfl (by rw [hR9]; decide) (lw_g_mk tw_441 rfl) (lw_g_mk tw_1 rfl) (by decide) rfl (lw_g_mk tw_438 rfl) rfl (Nat.le_of_ble_eq_true rfl) dL_law_162 ⟨by rw [hRc]; omega, by rw [hRs]; omega⟩ rfl rfl (fun v72 hv73 => ?_) (fun k74 hv75 => ?_)
                                                    · rcases q32 with x33 | e34
                                                      · rw [Sum.elim_inl] at h
                                                        have hv73 : (Sum.inl (some (Value.int x33)) : Option Value ⊕ Nat) = .inl v72 := hv73
                                                        cases hv73
                                                        refine x_aload_n C dL_law_165 rfl 2 rfl ?_
                                                        refine x_iload C dL_law_166 4 rfl ?_
                                                        obtain ⟨hg77, h⟩ := gd_some h
                                                        refine x_zald C _ (wl_ex pu_0) hg77 dL_law_168 ?_
                                                        have hJ104 : ∀ (t35 : Int32) (r9 : (Int32 × Int32) ⊕ ((Int32) ⊕ (Int32))), jL_body_177 x33 q26 a113 q16 t35 = some r9 → (∀ a2, r9 = .inl a2 → (fun (n113 : Nat) (a113 : Int32 × Int32) => X p l e R s m args below meth c 6 cy D B ((((((((((nc + 1) + 1) + 1) + 1) + 251) + 43) + 1) + 1) + 1) + (9 - n113) * 22) ((((((((((ns + 6) + 6) + 6) + 6) + 496011) + 238) + 6) + 6) + 8) + (9 - n113) * 132) Q 113 [(0, .ref (sA ek)), (1, .ref (B + oHB)), (2, .ref aA), (3, .int a113.1), (4, .int a113.2)] [] q16.2 (Y ++ [cAc cy aA q26])) n113 a2) → (∀ b2, r9 = .inr b2 → (fun (b113 : (Int32) ⊕ (Int32)) => Sum.elim (fun z113 => X p l e R s m args below meth c 6 cy D B ((((((((((nc + 1) + 1) + 1) + 1) + 251) + 43) + 1) + 1) + 1) + 198) ((((((((((ns + 6) + 6) + 6) + 6) + 496011) + 238) + 6) + 6) + 8) + 1188) Q 231 [(0, .ref (sA ek)), (1, .ref (B + oHB)), (2, .ref aA), (3, .int z113)] [] q16.2 (Y ++ [cAc cy aA q26])) (fun w113 => ∀ (cells9 slots9 pc9 : Nat) (lcs9 : List (Nat × Value)) (σ9 : Mem) (Y9 : va_W), decode cL_law pc9 = .ok (.ireturn, 1) → cells9 ≤ 18467 → slots9 ≤ 595971 → X p l e R s m args below meth c 6 cy D B cells9 slots9 Q pc9 lcs9 [.int w113] σ9 Y9) b113) b2) → X p l e R s m args below meth c 6 cy D B ((((((((((((nc + 1) + 1) + 1) + 1) + 251) + 43) + 1) + 1) + 1) + (9 - (n113 + 1)) * 22) + 18) + 1) ((((((((((((ns + 6) + 6) + 6) + 6) + 496011) + 238) + 6) + 6) + 8) + (9 - (n113 + 1)) * 132) + 108) + 6) Q 177 [(0, .ref (sA ek)), (1, .ref (B + oHB)), (2, .ref aA), (3, .int a113.1), (4, .int a113.2)] [.int t35, .int x33] q16.2 (Y ++ [cAc cy aA q26]) := by
                                                          intro t35 r h hA54 hB55
                                                          unfold jL_body_177 at h
                                                          refine x_icmp_eq C (tgt := 182) dL_law_177 (by decide) (fun hc78 => ?_) (fun hc78 => ?_)
                                                          · rw [if_pos hc78] at h
                                                            refine x_aload_n C dL_law_182 rfl 2 rfl ?_
                                                            refine x_iload C dL_law_183 4 rfl ?_
                                                            refine x_zald C _ (wl_ex pu_0) hg77 dL_law_185 ?_
                                                            refine x_if_eq C (tgt := 192) dL_law_186 (by decide) (fun hc79 => ?_) (fun hc79 => ?_)
                                                            · rw [if_pos hc79] at h
                                                              refine x_aload_n C dL_law_192 rfl 1 rfl ?_
                                                              refine x_iload_n C dL_law_193 rfl 3 rfl ?_
                                                              obtain ⟨q36, hk80, h⟩ := Option.bind_eq_some_iff.mp h
                                                              refine x_callVX C (As := [.int a113.1]) (rest := []) (cells2 := (((((((((((((nc + 1) + 1) + 1) + 1) + 251) + 43) + 1) + 1) + 1) + (9 - (n113 + 1)) * 22) + 18) + 1) + 1)) (slots2 := (((((((((((((ns + 6) + 6) + 6) + 6) + 496011) + 238) + 6) + 6) + 8) + (9 - (n113 + 1)) * 132) + 108) + 6) + 6)) (lw_g_mk tw_443 rfl) (lw_g_mk tw_444 rfl) (c_HB) (C1 := "HostelBeds") (T := TX5) (N := 12) (ci := 7) rfl (okX5_waiting l hlf cy D B ek a113.1 q16.2 (Y ++ [cAc cy aA q26]) _ hk80) rfl rfl (by rw [hR9]; decide) (lw_g_mk tw_445 rfl) (lw_g_mk tw_1 rfl) (by decide) rfl (lw_g_mk tw_442 rfl) rfl (Nat.le_of_ble_eq_true rfl) dL_law_194 ⟨by rw [hRc]; omega, by rw [hRs]; omega⟩ rfl rfl (fun v81 hv82 => ?_) (fun k83 hv84 => ?_)
                                                              · rcases q36 with x37 | e38
                                                                · rw [Sum.elim_inl] at h
                                                                  have hv82 : (Sum.inl (some (Value.int x37)) : Option Value ⊕ Nat) = .inl v81 := hv82
                                                                  cases hv82
                                                                  refine x_iload C dL_law_197 4 rfl ?_
                                                                  refine x_icmp_ne C (tgt := 220) dL_law_199 (by decide) (fun hc86 => ?_) (fun hc86 => ?_)
                                                                  · rw [if_pos hc86] at h
                                                                    refine x_iconst C (v := 0) dL_law_220 (by decide) ?_
                                                                    cases h
                                                                    exact hB55 (.inr (0 : Int32)) rfl _ _ _ _ _ _ dL_law_221 (by omega) (by omega)
                                                                  · rw [if_neg hc86] at h
                                                                    refine x_aload_n C dL_law_202 rfl 1 rfl ?_
                                                                    refine x_iload C dL_law_203 4 rfl ?_
                                                                    obtain ⟨q39, hk87, h⟩ := Option.bind_eq_some_iff.mp h
                                                                    refine x_callVX C (As := [.int a113.2]) (rest := []) (cells2 := ((((((((((((((nc + 1) + 1) + 1) + 1) + 251) + 43) + 1) + 1) + 1) + (9 - (n113 + 1)) * 22) + 18) + 1) + 1) + 1)) (slots2 := ((((((((((((((ns + 6) + 6) + 6) + 6) + 496011) + 238) + 6) + 6) + 8) + (9 - (n113 + 1)) * 132) + 108) + 6) + 6) + 6)) (lw_g_mk tw_448 rfl) (lw_g_mk tw_449 rfl) (c_HB) (C1 := "HostelBeds") (T := TX5) (N := 12) (ci := 7) rfl (okX5_placed l hlf cy D B ek a113.2 q16.2 (Y ++ [cAc cy aA q26]) _ hk87) rfl rfl (by rw [hR9]; decide) (lw_g_mk tw_450 rfl) (lw_g_mk tw_1 rfl) (by decide) rfl (lw_g_mk tw_447 rfl) rfl (Nat.le_of_ble_eq_true rfl) dL_law_205 ⟨by rw [hRc]; omega, by rw [hRs]; omega⟩ rfl rfl (fun v88 hv89 => ?_) (fun k90 hv91 => ?_)
                                                                    · rcases q39 with x40 | e41
                                                                      · rw [Sum.elim_inl] at h
                                                                        have hv89 : (Sum.inl (some (Value.int x40)) : Option Value ⊕ Nat) = .inl v88 := hv89
                                                                        cases hv89
                                                                        refine x_if_ne C (tgt := 220) dL_law_208 (by decide) (fun hc93 => ?_) (fun hc93 => ?_)
                                                                        · rw [if_pos hc93] at h
                                                                          refine x_iconst C (v := 0) dL_law_220 (by decide) ?_
                                                                          cases h
                                                                          exact hB55 (.inr (0 : Int32)) rfl _ _ _ _ _ _ dL_law_221 (by omega) (by omega)
                                                                        · rw [if_neg hc93] at h
                                                                          refine x_aload_n C dL_law_211 rfl 1 rfl ?_
                                                                          refine x_iload C dL_law_212 4 rfl ?_
                                                                          obtain ⟨q42, hk94, h⟩ := Option.bind_eq_some_iff.mp h
                                                                          refine x_callVX C (As := [.int a113.2]) (rest := []) (cells2 := (((((((((((((((nc + 1) + 1) + 1) + 1) + 251) + 43) + 1) + 1) + 1) + (9 - (n113 + 1)) * 22) + 18) + 1) + 1) + 1) + 1)) (slots2 := (((((((((((((((ns + 6) + 6) + 6) + 6) + 496011) + 238) + 6) + 6) + 8) + (9 - (n113 + 1)) * 132) + 108) + 6) + 6) + 6) + 6)) (lw_g_mk tw_468 rfl) (lw_g_mk tw_469 rfl) (c_HB) (C1 := "HostelBeds") (T := TX5) (N := 12) (ci := 7) rfl (okX5_pays l hlf cy D B ek a113.2 q16.2 (Y ++ [cAc cy aA q26]) _ hk94) rfl rfl (by rw [hR9]; decide) (lw_g_mk tw_470 rfl) (lw_g_mk tw_1 rfl) (by decide) rfl (lw_g_mk tw_467 rfl) rfl (Nat.le_of_ble_eq_true rfl) dL_law_214 ⟨by rw [hRc]; omega, by rw [hRs]; omega⟩ rfl rfl (fun v95 hv96 => ?_) (fun k97 hv98 => ?_)
                                                                          · rcases q42 with x43 | e44
                                                                            · rw [Sum.elim_inl] at h
                                                                              have hv96 : (Sum.inl (some (Value.int x43)) : Option Value ⊕ Nat) = .inl v95 := hv96
                                                                              cases hv96
                                                                              refine x_if_eq C (tgt := 222) dL_law_217 (by decide) (fun hc100 => ?_) (fun hc100 => ?_)
                                                                              · rw [if_pos hc100] at h
                                                                                refine x_iinc C (k := 3) [(3, .int (a113.1 + (1 : Int32))), (0, .ref (sA ek)), (1, .ref (B + oHB)), (2, .ref aA), (4, .int a113.2)] dL_law_222 rfl rfl (by decide) rfl ?_
                                                                                refine x_iinc C (k := 4) [(4, .int (a113.2 + (1 : Int32))), (3, .int (a113.1 + (1 : Int32))), (0, .ref (sA ek)), (1, .ref (B + oHB)), (2, .ref aA)] dL_law_225 rfl rfl (by decide) rfl ?_
                                                                                refine x_goto C (tgt := 113) dL_law_228 (by decide) ?_
                                                                                cases h
                                                                                refine x_widen (cells2 := ((((((((((nc + 1) + 1) + 1) + 1) + 251) + 43) + 1) + 1) + 1) + (9 - n113) * 22)) (slots2 := ((((((((((ns + 6) + 6) + 6) + 6) + 496011) + 238) + 6) + 6) + 8) + (9 - n113) * 132)) (by omega) (by omega) ?_
                                                                                refine x_sub [2, 3, 4, 1, 0] rfl ?_
                                                                                exact hA54 (a113.1 + (1 : Int32), a113.2 + (1 : Int32)) rfl
                                                                              · rw [if_neg hc100] at h
                                                                                refine x_iconst C (v := 0) dL_law_220 (by decide) ?_
                                                                                cases h
                                                                                exact hB55 (.inr (0 : Int32)) rfl _ _ _ _ _ _ dL_law_221 (by omega) (by omega)
                                                                            · cases hv96
                                                                          · rcases q42 with x43 | e44
                                                                            · cases hv98
                                                                            · rw [Sum.elim_inr] at h
                                                                              cases h
                                                                      · cases hv89
                                                                    · rcases q39 with x40 | e41
                                                                      · cases hv91
                                                                      · rw [Sum.elim_inr] at h
                                                                        cases h
                                                                · cases hv82
                                                              · rcases q36 with x37 | e38
                                                                · cases hv84
                                                                · rw [Sum.elim_inr] at h
                                                                  cases h
                                                            · rw [if_neg hc79] at h
                                                              refine x_goto C (tgt := 225) dL_law_189 (by decide) ?_
                                                              refine x_iinc C (k := 4) [(4, .int (a113.2 + (1 : Int32))), (0, .ref (sA ek)), (1, .ref (B + oHB)), (2, .ref aA), (3, .int a113.1)] dL_law_225 rfl rfl (by decide) rfl ?_
                                                              refine x_goto C (tgt := 113) dL_law_228 (by decide) ?_
                                                              cases h
                                                              refine x_widen (cells2 := ((((((((((nc + 1) + 1) + 1) + 1) + 251) + 43) + 1) + 1) + 1) + (9 - n113) * 22)) (slots2 := ((((((((((ns + 6) + 6) + 6) + 6) + 496011) + 238) + 6) + 6) + 8) + (9 - n113) * 132)) (by omega) (by omega) ?_
                                                              refine x_sub [1, 2, 3, 4, 0] rfl ?_
                                                              exact hA54 (a113.1, a113.2 + (1 : Int32)) rfl
                                                          · rw [if_neg hc78] at h
                                                            refine x_iconst C (v := 0) dL_law_180 (by decide) ?_
                                                            cases h
                                                            exact hB55 (.inr (0 : Int32)) rfl _ _ _ _ _ _ dL_law_181 (by omega) (by omega)
                                                        refine x_if_eq C (tgt := 176) dL_law_169 (by decide) (fun hc105 => ?_) (fun hc105 => ?_)
                                                        · rw [if_pos hc105] at h
                                                          refine x_iconst C (v := 0) dL_law_176 (by decide) ?_
                                                          exact hJ104 (0 : Int32) _ h hA54 hB55
                                                        · rw [if_neg hc105] at h
                                                          refine x_iconst C (v := 1) dL_law_172 (by decide) ?_
                                                          refine x_goto C (tgt := 177) dL_law_173 (by decide) ?_
                                                          exact hJ104 (1 : Int32) _ h hA54 hB55
                                                      · cases hv73
                                                    · rcases q32 with x33 | e34
                                                      · cases hv75
                                                      · rw [Sum.elim_inr] at h
                                                        cases h
                                                  · rw [Sum.elim_inr] at h
                                                    show ∀ (cells9 slots9 pc9 : Nat) (lcs9 : List (Nat × Value)) (σ9 : Mem) (Y9 : va_W), decode cL_law pc9 = .ok (.ireturn, 1) → cells9 ≤ 18467 → slots9 ≤ 595971 → X p l e R s m args below meth c 6 cy D B cells9 slots9 Q pc9 lcs9 [.int w125] σ9 Y9
                                                    cases h
                                                    exact hB55 (.inr w125) rfl
                                            · rcases b113 with z113 | w113
                                              · rw [Sum.elim_inl] at h
                                                show X p l e R s m args below meth c 6 cy D B ((((((((((nc + 1) + 1) + 1) + 1) + 251) + 43) + 1) + 1) + 1) + 198) ((((((((((ns + 6) + 6) + 6) + 6) + 496011) + 238) + 6) + 6) + 8) + 1188) Q 231 [(0, .ref (sA ek)), (1, .ref (B + oHB)), (2, .ref aA), (3, .int z113)] [] q16.2 (Y ++ [cAc cy aA q26])
                                                refine x_iconst C (v := 0) dL_law_231 (by decide) ?_
                                                refine x_istore C [(4, .int (0 : Int32)), (0, .ref (sA ek)), (1, .ref (B + oHB)), (2, .ref aA), (3, .int z113)] dL_law_232 (by decide) rfl ?_
                                                obtain ⟨b234, hk125, h⟩ := Option.bind_eq_some_iff.mp h
                                                refine x_sub [1, 2, 3, 4, 0] rfl ?_
                                                refine x_widen (cells2 := (((((((((((nc + 1) + 1) + 1) + 1) + 251) + 43) + 1) + 1) + 1) + 198) + (6 - 6) * 12)) (slots2 := (((((((((((ns + 6) + 6) + 6) + 6) + 496011) + 238) + 6) + 6) + 8) + 1188) + (6 - 6) * 72)) (by omega) (by omega) ?_
                                                refine loop_runN (N := 6) (step := stL_body_234 xs L q16) (P := fun (n234 : Nat) (a234 : Int32) => X p l e R s m args below meth c 6 cy D B (((((((((((nc + 1) + 1) + 1) + 1) + 251) + 43) + 1) + 1) + 1) + 198) + (6 - n234) * 12) (((((((((((ns + 6) + 6) + 6) + 6) + 496011) + 238) + 6) + 6) + 8) + 1188) + (6 - n234) * 72) Q 234 [(0, .ref (sA ek)), (1, .ref (B + oHB)), (2, .ref aA), (3, .int z113), (4, .int a234)] [] q16.2 (Y ++ [cAc cy aA q26])) (K := fun (b234 : (Unit) ⊕ (Int32)) => Sum.elim (fun z234 => X p l e R s m args below meth c 6 cy D B (((((((((((nc + 1) + 1) + 1) + 1) + 251) + 43) + 1) + 1) + 1) + 198) + 72) (((((((((((ns + 6) + 6) + 6) + 6) + 496011) + 238) + 6) + 6) + 8) + 1188) + 432) Q 285 [(0, .ref (sA ek)), (1, .ref (B + oHB)), (2, .ref aA), (3, .int z113)] [] q16.2 (Y ++ [cAc cy aA q26])) (fun w234 => ∀ (cells9 slots9 pc9 : Nat) (lcs9 : List (Nat × Value)) (σ9 : Mem) (Y9 : va_W), decode cL_law pc9 = .ok (.ireturn, 1) → cells9 ≤ 18467 → slots9 ≤ 595971 → X p l e R s m args below meth c 6 cy D B cells9 slots9 Q pc9 lcs9 [.int w234] σ9 Y9) b234) ?_ 6 ((0 : Int32)) b234 (Nat.le_refl _) hk125 ?_
                                                · intro n234 a234 r hn234 h hA108 hB109
                                                  unfold stL_body_234 at h
                                                  refine x_iload C dL_law_234 4 rfl ?_
                                                  refine x_aload_n C dL_law_236 rfl 0 rfl ?_
                                                  obtain ⟨q45, hk110, h⟩ := Option.bind_eq_some_iff.mp h
                                                  refine x_callS C (As := [.ref (sA ek)]) (rest := [.int a234]) (lw_g_mk tw_761 rfl) (okL_roomsOf l cy D B ek xs L hxs hLs q16.2 (Y ++ [cAc cy aA q26]) _ hk110) rfl rfl (by rw [hR9]; decide) (lw_g_mk tw_762 rfl) (lw_g_mk tw_0 rfl) (by decide) rfl (lw_g_mk tw_760 rfl) rfl (Nat.le_of_ble_eq_true rfl) dL_law_237 ⟨by rw [hRc]; omega, by rw [hRs]; omega⟩ ?_
                                                  refine x_icmp_ge C (tgt := 285) dL_law_240 (by decide) (fun hc111 => ?_) (fun hc111 => ?_)
                                                  · rw [if_pos hc111] at h
                                                    cases h
                                                    refine x_widen (cells2 := (((((((((((nc + 1) + 1) + 1) + 1) + 251) + 43) + 1) + 1) + 1) + 198) + 72)) (slots2 := (((((((((((ns + 6) + 6) + 6) + 6) + 496011) + 238) + 6) + 6) + 8) + 1188) + 432)) (by omega) (by omega) ?_
                                                    refine x_sub [0, 1, 2, 3] rfl ?_
                                                    exact hB109 (.inl ()) rfl
                                                  · rw [if_neg hc111] at h
                                                    refine x_iconst C (v := 0) dL_law_243 (by decide) ?_
                                                    refine x_istore C [(5, .int (0 : Int32)), (0, .ref (sA ek)), (1, .ref (B + oHB)), (2, .ref aA), (3, .int z113), (4, .int a234)] dL_law_244 (by decide) rfl ?_
                                                    obtain ⟨b246, hk124, h⟩ := Option.bind_eq_some_iff.mp h
                                                    refine x_sub [1, 2, 3, 4, 5, 0] rfl ?_
                                                    refine x_widen (cells2 := ((((((((((((nc + 1) + 1) + 1) + 1) + 251) + 43) + 1) + 1) + 1) + 198) + (6 - (n234 + 1)) * 12) + (6 - 6) * 2)) (slots2 := ((((((((((((ns + 6) + 6) + 6) + 6) + 496011) + 238) + 6) + 6) + 8) + 1188) + (6 - (n234 + 1)) * 72) + (6 - 6) * 12)) (by omega) (by omega) ?_
                                                    refine loop_runN (N := 6) (step := stL_body_246 a234 q16 xs L) (P := fun (n246 : Nat) (a246 : Int32) => X p l e R s m args below meth c 6 cy D B ((((((((((((nc + 1) + 1) + 1) + 1) + 251) + 43) + 1) + 1) + 1) + 198) + (6 - (n234 + 1)) * 12) + (6 - n246) * 2) ((((((((((((ns + 6) + 6) + 6) + 6) + 496011) + 238) + 6) + 6) + 8) + 1188) + (6 - (n234 + 1)) * 72) + (6 - n246) * 12) Q 246 [(0, .ref (sA ek)), (1, .ref (B + oHB)), (2, .ref aA), (3, .int z113), (4, .int a234), (5, .int a246)] [] q16.2 (Y ++ [cAc cy aA q26])) (K := fun (b246 : (Unit) ⊕ (Int32)) => Sum.elim (fun z246 => X p l e R s m args below meth c 6 cy D B ((((((((((((nc + 1) + 1) + 1) + 1) + 251) + 43) + 1) + 1) + 1) + 198) + (6 - (n234 + 1)) * 12) + 12) ((((((((((((ns + 6) + 6) + 6) + 6) + 496011) + 238) + 6) + 6) + 8) + 1188) + (6 - (n234 + 1)) * 72) + 72) Q 279 [(0, .ref (sA ek)), (1, .ref (B + oHB)), (2, .ref aA), (3, .int z113), (4, .int a234)] [] q16.2 (Y ++ [cAc cy aA q26])) (fun w246 => ∀ (cells9 slots9 pc9 : Nat) (lcs9 : List (Nat × Value)) (σ9 : Mem) (Y9 : va_W), decode cL_law pc9 = .ok (.ireturn, 1) → cells9 ≤ 18467 → slots9 ≤ 595971 → X p l e R s m args below meth c 6 cy D B cells9 slots9 Q pc9 lcs9 [.int w246] σ9 Y9) b246) ?_ 6 ((0 : Int32)) b246 (Nat.le_refl _) hk124 ?_
                                                    · intro n246 a246 r hn246 h hA112 hB113
                                                      unfold stL_body_246 at h
                                                      refine x_iload C dL_law_246 5 rfl ?_
                                                      refine x_iconst C (v := 4) dL_law_248 (by decide) ?_
                                                      refine x_icmp_ge C (tgt := 279) dL_law_249 (by decide) (fun hc114 => ?_) (fun hc114 => ?_)
                                                      · rw [if_pos hc114] at h
                                                        cases h
                                                        refine x_widen (cells2 := ((((((((((((nc + 1) + 1) + 1) + 1) + 251) + 43) + 1) + 1) + 1) + 198) + (6 - (n234 + 1)) * 12) + 12)) (slots2 := ((((((((((((ns + 6) + 6) + 6) + 6) + 496011) + 238) + 6) + 6) + 8) + 1188) + (6 - (n234 + 1)) * 72) + 72)) (by omega) (by omega) ?_
                                                        refine x_sub [0, 1, 2, 3, 4] rfl ?_
                                                        exact hB113 (.inl ()) rfl
                                                      · rw [if_neg hc114] at h
                                                        refine x_aload_n C dL_law_252 rfl 1 rfl ?_
                                                        refine x_iload C dL_law_253 4 rfl ?_
                                                        refine x_iload C dL_law_255 5 rfl ?_
                                                        obtain ⟨q46, hk115, h⟩ := Option.bind_eq_some_iff.mp h
                                                        refine x_callVX C (As := [.int a234, .int a246]) (rest := []) (cells2 := (((((((((((((nc + 1) + 1) + 1) + 1) + 251) + 43) + 1) + 1) + 1) + 198) + (6 - (n234 + 1)) * 12) + (6 - (n246 + 1)) * 2) + 2)) (slots2 := (((((((((((((ns + 6) + 6) + 6) + 6) + 496011) + 238) + 6) + 6) + 8) + 1188) + (6 - (n234 + 1)) * 72) + (6 - (n246 + 1)) * 12) + 12)) (lw_g_mk tw_404 rfl) (lw_g_mk tw_405 rfl) (c_HB) (C1 := "HostelBeds") (T := TX5) (N := 12) (ci := 7) rfl (okX5_room l hlf cy D B ek a234 a246 q16.2 (Y ++ [cAc cy aA q26]) _ hk115) rfl rfl (by rw [hR9]; decide) (lw_g_mk tw_406 rfl) (lw_g_mk tw_1 rfl) (by decide) rfl (lw_g_mk tw_403 rfl) rfl (Nat.le_of_ble_eq_true rfl) dL_law_257 ⟨by rw [hRc]; omega, by rw [hRs]; omega⟩ rfl rfl (fun v116 hv117 => ?_) (fun k118 hv119 => ?_)
                                                        · rcases q46 with x47 | e48
                                                          · rw [Sum.elim_inl] at h
                                                            have hv117 : (Sum.inl (some (Value.int x47)) : Option Value ⊕ Nat) = .inl v116 := hv117
                                                            cases hv117
                                                            refine x_aload_n C dL_law_260 rfl 0 rfl ?_
                                                            refine x_iload C dL_law_261 4 rfl ?_
                                                            refine x_iload C dL_law_263 5 rfl ?_
                                                            obtain ⟨q49, hk121, h⟩ := Option.bind_eq_some_iff.mp h
                                                            refine x_callS C (As := [.ref (sA ek), .int a234, .int a246]) (rest := [.int x47]) (lw_g_mk tw_764 rfl) (okL_room l cy D B ek xs L hxs hLs a234 a246 q16.2 (Y ++ [cAc cy aA q26]) _ hk121) rfl rfl (by rw [hR9]; decide) (lw_g_mk tw_765 rfl) (lw_g_mk tw_0 rfl) (by decide) rfl (lw_g_mk tw_763 rfl) rfl (Nat.le_of_ble_eq_true rfl) dL_law_265 ⟨by rw [hRc]; omega, by rw [hRs]; omega⟩ ?_
                                                            refine x_icmp_eq C (tgt := 273) dL_law_268 (by decide) (fun hc122 => ?_) (fun hc122 => ?_)
                                                            · rw [if_pos hc122] at h
                                                              refine x_iinc C (k := 5) [(5, .int (a246 + (1 : Int32))), (0, .ref (sA ek)), (1, .ref (B + oHB)), (2, .ref aA), (3, .int z113), (4, .int a234)] dL_law_273 rfl rfl (by decide) rfl ?_
                                                              refine x_goto C (tgt := 246) dL_law_276 (by decide) ?_
                                                              cases h
                                                              refine x_widen (cells2 := ((((((((((((nc + 1) + 1) + 1) + 1) + 251) + 43) + 1) + 1) + 1) + 198) + (6 - (n234 + 1)) * 12) + (6 - n246) * 2)) (slots2 := ((((((((((((ns + 6) + 6) + 6) + 6) + 496011) + 238) + 6) + 6) + 8) + 1188) + (6 - (n234 + 1)) * 72) + (6 - n246) * 12)) (by omega) (by omega) ?_
                                                              refine x_sub [1, 2, 3, 4, 5, 0] rfl ?_
                                                              exact hA112 (a246 + (1 : Int32)) rfl
                                                            · rw [if_neg hc122] at h
                                                              refine x_iconst C (v := 0) dL_law_271 (by decide) ?_
                                                              cases h
                                                              exact hB113 (.inr (0 : Int32)) rfl _ _ _ _ _ _ dL_law_272 (by omega) (by omega)
                                                          · cases hv117
                                                        · rcases q46 with x47 | e48
                                                          · cases hv119
                                                          · rw [Sum.elim_inr] at h
                                                            cases h
                                                    · rcases b246 with z246 | w246
                                                      · rw [Sum.elim_inl] at h
                                                        show X p l e R s m args below meth c 6 cy D B ((((((((((((nc + 1) + 1) + 1) + 1) + 251) + 43) + 1) + 1) + 1) + 198) + (6 - (n234 + 1)) * 12) + 12) ((((((((((((ns + 6) + 6) + 6) + 6) + 496011) + 238) + 6) + 6) + 8) + 1188) + (6 - (n234 + 1)) * 72) + 72) Q 279 [(0, .ref (sA ek)), (1, .ref (B + oHB)), (2, .ref aA), (3, .int z113), (4, .int a234)] [] q16.2 (Y ++ [cAc cy aA q26])
                                                        refine x_iinc C (k := 4) [(4, .int (a234 + (1 : Int32))), (0, .ref (sA ek)), (1, .ref (B + oHB)), (2, .ref aA), (3, .int z113)] dL_law_279 rfl rfl (by decide) rfl ?_
                                                        refine x_goto C (tgt := 234) dL_law_282 (by decide) ?_
                                                        cases h
                                                        refine x_widen (cells2 := (((((((((((nc + 1) + 1) + 1) + 1) + 251) + 43) + 1) + 1) + 1) + 198) + (6 - n234) * 12)) (slots2 := (((((((((((ns + 6) + 6) + 6) + 6) + 496011) + 238) + 6) + 6) + 8) + 1188) + (6 - n234) * 72)) (by omega) (by omega) ?_
                                                        refine x_sub [1, 2, 3, 4, 0] rfl ?_
                                                        exact hA108 (a234 + (1 : Int32)) rfl
                                                      · rw [Sum.elim_inr] at h
                                                        show ∀ (cells9 slots9 pc9 : Nat) (lcs9 : List (Nat × Value)) (σ9 : Mem) (Y9 : va_W), decode cL_law pc9 = .ok (.ireturn, 1) → cells9 ≤ 18467 → slots9 ≤ 595971 → X p l e R s m args below meth c 6 cy D B cells9 slots9 Q pc9 lcs9 [.int w246] σ9 Y9
                                                        cases h
                                                        exact hB109 (.inr w246) rfl
                                                · rcases b234 with z234 | w234
                                                  · rw [Sum.elim_inl] at h
                                                    show X p l e R s m args below meth c 6 cy D B (((((((((((nc + 1) + 1) + 1) + 1) + 251) + 43) + 1) + 1) + 1) + 198) + 72) (((((((((((ns + 6) + 6) + 6) + 6) + 496011) + 238) + 6) + 6) + 8) + 1188) + 432) Q 285 [(0, .ref (sA ek)), (1, .ref (B + oHB)), (2, .ref aA), (3, .int z113)] [] q16.2 (Y ++ [cAc cy aA q26])
                                                    refine x_aload_n C dL_law_285 rfl 1 rfl ?_
                                                    refine x_iconst C (v := 3) dL_law_286 (by decide) ?_
                                                    obtain ⟨q50, hk126, h⟩ := Option.bind_eq_some_iff.mp h
                                                    refine x_callVX C (As := [.int (3 : Int32)]) (rest := []) (cells2 := ((((((((((((nc + 1) + 1) + 1) + 1) + 251) + 43) + 1) + 1) + 1) + 198) + 72) + 1)) (slots2 := ((((((((((((ns + 6) + 6) + 6) + 6) + 496011) + 238) + 6) + 6) + 8) + 1188) + 432) + 6)) (lw_g_mk tw_323 rfl) (lw_g_mk tw_324 rfl) (c_HB) (C1 := "HostelBeds") (T := TX5) (N := 12) (ci := 7) rfl (okX5_count l hlf cy D B ek (3 : Int32) q16.2 (Y ++ [cAc cy aA q26]) _ hk126) rfl rfl (by rw [hR9]; decide) (lw_g_mk tw_325 rfl) (lw_g_mk tw_1 rfl) (by decide) rfl (lw_g_mk tw_322 rfl) rfl (Nat.le_of_ble_eq_true rfl) dL_law_287 ⟨by rw [hRc]; omega, by rw [hRs]; omega⟩ rfl rfl (fun v127 hv128 => ?_) (fun k129 hv130 => ?_)
                                                    · rcases q50 with x51 | e52
                                                      · rw [Sum.elim_inl] at h
                                                        have hv128 : (Sum.inl (some (Value.int x51)) : Option Value ⊕ Nat) = .inl v127 := hv128
                                                        cases hv128
                                                        refine x_iload_n C dL_law_290 rfl 3 rfl ?_
                                                        refine x_icmp_ne C (tgt := 323) dL_law_291 (by decide) (fun hc132 => ?_) (fun hc132 => ?_)
                                                        · rw [if_pos hc132] at h
                                                          refine x_iconst C (v := 0) dL_law_323 (by decide) ?_
                                                          obtain rfl := Option.some.inj h
                                                          exact hret _ _ _ _ _ _ dL_law_324 (by omega) (by omega)
                                                        · rw [if_neg hc132] at h
                                                          refine x_aload_n C dL_law_294 rfl 1 rfl ?_
                                                          refine x_aload_n C dL_law_295 rfl 0 rfl ?_
                                                          refine x_aload_n C dL_law_296 rfl 2 rfl ?_
                                                          obtain ⟨q53, hk133, h⟩ := Option.bind_eq_some_iff.mp h
                                                          refine x_callSE C (As := [.ref (B + oHB), .ref (sA ek), .ref aA]) (rest := []) (lw_g_mk tw_1075 rfl) (okL_isHostel l hlf cy D B ek xs L hxs hLs _ _ q26 q16.2 (Y ++ [cAc cy aA q26]) pu_0 _ hk133) rfl rfl (by rw [hR9]; decide) (lw_g_mk tw_1076 rfl) (lw_g_mk tw_0 rfl) (by decide) rfl (lw_g_mk tw_1074 rfl) rfl (Nat.le_of_ble_eq_true rfl) dL_law_297 ⟨by rw [hRc]; omega, by rw [hRs]; omega⟩ (fun v9 σ9 Y9 hp9 => ?_)
                                                          obtain ⟨e7, e8, e9⟩ := hp9
                                                          rw [e7, e8, e9]
                                                          refine x_if_eq C (tgt := 323) dL_law_300 (by decide) (fun hc134 => ?_) (fun hc134 => ?_)
                                                          · rw [if_pos hc134] at h
                                                            refine x_iconst C (v := 0) dL_law_323 (by decide) ?_
                                                            obtain rfl := Option.some.inj h
                                                            exact hret _ _ _ _ _ _ dL_law_324 (by omega) (by omega)
                                                          · rw [if_neg hc134] at h
                                                            refine x_aload_n C dL_law_303 rfl 1 rfl ?_
                                                            refine x_aload_n C dL_law_304 rfl 0 rfl ?_
                                                            refine x_aload_n C dL_law_305 rfl 2 rfl ?_
                                                            refine x_aload_n C dL_law_306 rfl 0 rfl ?_
                                                            refine x_bipush C (v := 13) dL_law_307 (by decide) ?_
                                                            obtain ⟨q54, hk135, h⟩ := Option.bind_eq_some_iff.mp h
                                                            refine x_callS C (As := [.ref (sA ek), .int (13 : Int32)]) (rest := [.ref aA, .ref (sA ek), .ref (B + oHB)]) (lw_g_mk tw_476 rfl) (okL_cell l cy D B ek xs L hxs hLs (13 : Int32) q16.2 (Y ++ [cAc cy aA q26]) _ hk135) rfl rfl (by rw [hR9]; decide) (lw_g_mk tw_477 rfl) (lw_g_mk tw_0 rfl) (by decide) rfl (lw_g_mk tw_475 rfl) rfl (Nat.le_of_ble_eq_true rfl) dL_law_309 ⟨by rw [hRc]; omega, by rw [hRs]; omega⟩ ?_
                                                            refine x_bipush C (v := 30) dL_law_312 (by decide) ?_
                                                            obtain ⟨q55, hk136, h⟩ := Option.bind_eq_some_iff.mp h
                                                            refine x_callS C (As := [.int q54, .int (30 : Int32)]) (rest := [.ref aA, .ref (sA ek), .ref (B + oHB)]) (lw_g_mk tw_479 rfl) (okL_part l cy D B ek q54 (30 : Int32) q16.2 (Y ++ [cAc cy aA q26]) _ hk136) rfl rfl (by rw [hR9]; decide) (lw_g_mk tw_480 rfl) (lw_g_mk tw_0 rfl) (by decide) rfl (lw_g_mk tw_478 rfl) rfl (Nat.le_of_ble_eq_true rfl) dL_law_314 ⟨by rw [hRc]; omega, by rw [hRs]; omega⟩ ?_
                                                            obtain ⟨q56, hk137, h⟩ := Option.bind_eq_some_iff.mp h
                                                            refine x_callSE C (As := [.ref (B + oHB), .ref (sA ek), .ref aA, .int q55]) (rest := []) (lw_g_mk tw_1139 rfl) (okL_areChances l hlf cy D B ek xs L hxs hLs _ _ q55 q26 q16.2 (Y ++ [cAc cy aA q26]) pu_0 _ hk137) rfl rfl (by rw [hR9]; decide) (lw_g_mk tw_1140 rfl) (lw_g_mk tw_0 rfl) (by decide) rfl (lw_g_mk tw_1138 rfl) rfl (Nat.le_of_ble_eq_true rfl) dL_law_317 ⟨by rw [hRc]; omega, by rw [hRs]; omega⟩ (fun v9 σ9 Y9 hp9 => ?_)
                                                            obtain ⟨e7, e8, e9⟩ := hp9
                                                            rw [e7, e8, e9]
                                                            refine x_if_ne C (tgt := 325) dL_law_320 (by decide) (fun hc138 => ?_) (fun hc138 => ?_)
                                                            · rw [if_pos hc138] at h
                                                              refine x_aload_n C dL_law_325 rfl 1 rfl ?_
                                                              refine x_aload_n C dL_law_326 rfl 0 rfl ?_
                                                              obtain ⟨q57, hk139, h⟩ := Option.bind_eq_some_iff.mp h
                                                              refine x_callS C (As := [.ref (sA ek)]) (rest := [.ref (B + oHB)]) (lw_g_mk tw_767 rfl) (okL_bookingsOf l cy D B ek xs L hxs hLs q56.2 (Y ++ [cAc cy aA q26]) _ hk139) rfl rfl (by rw [hR9]; decide) (lw_g_mk tw_768 rfl) (lw_g_mk tw_0 rfl) (by decide) rfl (lw_g_mk tw_766 rfl) rfl (Nat.le_of_ble_eq_true rfl) dL_law_327 ⟨by rw [hRc]; omega, by rw [hRs]; omega⟩ ?_
                                                              refine x_iconst C (v := 0) dL_law_330 (by decide) ?_
                                                              obtain ⟨q58, hk140, h⟩ := Option.bind_eq_some_iff.mp h
                                                              refine x_callSW C (As := [.ref (B + oHB), .int q57, .int (0 : Int32)]) (rest := []) (cells2 := (((((((((((((((nc + 1) + 1) + 1) + 1) + 251) + 43) + 1) + 1) + 1) + 198) + 72) + 1) + 17449) + 56) + 2)) (slots2 := (((((((((((((((ns + 6) + 6) + 6) + 6) + 496011) + 238) + 6) + 6) + 8) + 1188) + 432) + 6) + 91000) + 1476) + 12)) (lw_g_mk tw_1022 rfl) (okL_noBed l hlf cy D B ek q57 (0 : Int32) q56.2 (Y ++ [cAc cy aA q26]) _ hk140) rfl rfl (by rw [hR9]; decide) (lw_g_mk tw_1023 rfl) (lw_g_mk tw_0 rfl) (by decide) rfl (lw_g_mk tw_1021 rfl) rfl (Nat.le_of_ble_eq_true rfl) dL_law_331 ⟨by rw [hRc]; omega, by rw [hRs]; omega⟩ rfl rfl ?_
                                                              refine x_aload_n C dL_law_334 rfl 1 rfl ?_
                                                              refine x_iconst C (v := -1) dL_law_335 (by decide) ?_
                                                              refine x_iconst C (v := 0) dL_law_336 (by decide) ?_
                                                              obtain ⟨q59, hk141, h⟩ := Option.bind_eq_some_iff.mp h
                                                              refine x_callSW C (As := [.ref (B + oHB), .int (-1 : Int32), .int (0 : Int32)]) (rest := [.int q58]) (cells2 := ((((((((((((((((nc + 1) + 1) + 1) + 1) + 251) + 43) + 1) + 1) + 1) + 198) + 72) + 1) + 17449) + 56) + 2) + 2)) (slots2 := ((((((((((((((((ns + 6) + 6) + 6) + 6) + 496011) + 238) + 6) + 6) + 8) + 1188) + 432) + 6) + 91000) + 1476) + 12) + 12)) (lw_g_mk tw_1056 rfl) (okL_noNumber l hlf cy D B ek (-1 : Int32) (0 : Int32) q56.2 (Y ++ [cAc cy aA q26]) _ hk141) rfl rfl (by rw [hR9]; decide) (lw_g_mk tw_1057 rfl) (lw_g_mk tw_0 rfl) (by decide) rfl (lw_g_mk tw_1055 rfl) rfl (Nat.le_of_ble_eq_true rfl) dL_law_337 ⟨by rw [hRc]; omega, by rw [hRs]; omega⟩ rfl rfl ?_
                                                              refine x_iadd C dL_law_340 ?_
                                                              refine x_aload_n C dL_law_341 rfl 1 rfl ?_
                                                              refine x_aload_n C dL_law_342 rfl 0 rfl ?_
                                                              obtain ⟨q60, hk142, h⟩ := Option.bind_eq_some_iff.mp h
                                                              refine x_callS C (As := [.ref (sA ek)]) (rest := [.ref (B + oHB), .int (q58 + q59)]) (lw_g_mk tw_767 rfl) (okL_bookingsOf l cy D B ek xs L hxs hLs q56.2 (Y ++ [cAc cy aA q26]) _ hk142) rfl rfl (by rw [hR9]; decide) (lw_g_mk tw_768 rfl) (lw_g_mk tw_0 rfl) (by decide) rfl (lw_g_mk tw_766 rfl) rfl (Nat.le_of_ble_eq_true rfl) dL_law_343 ⟨by rw [hRc]; omega, by rw [hRs]; omega⟩ ?_
                                                              refine x_bipush C (v := 9) dL_law_346 (by decide) ?_
                                                              obtain ⟨q61, hk143, h⟩ := Option.bind_eq_some_iff.mp h
                                                              refine x_callSW C (As := [.ref (B + oHB), .int q60, .int (9 : Int32)]) (rest := [.int (q58 + q59)]) (cells2 := (((((((((((((((((nc + 1) + 1) + 1) + 1) + 251) + 43) + 1) + 1) + 1) + 198) + 72) + 1) + 17449) + 56) + 2) + 2) + 2)) (slots2 := (((((((((((((((((ns + 6) + 6) + 6) + 6) + 496011) + 238) + 6) + 6) + 8) + 1188) + 432) + 6) + 91000) + 1476) + 12) + 12) + 12)) (lw_g_mk tw_1056 rfl) (okL_noNumber l hlf cy D B ek q60 (9 : Int32) q56.2 (Y ++ [cAc cy aA q26]) _ hk143) rfl rfl (by rw [hR9]; decide) (lw_g_mk tw_1057 rfl) (lw_g_mk tw_0 rfl) (by decide) rfl (lw_g_mk tw_1055 rfl) rfl (Nat.le_of_ble_eq_true rfl) dL_law_348 ⟨by rw [hRc]; omega, by rw [hRs]; omega⟩ rfl rfl ?_
                                                              refine x_iadd C dL_law_351 ?_
                                                              refine x_istore C [(4, .int ((q58 + q59) + q61)), (0, .ref (sA ek)), (1, .ref (B + oHB)), (2, .ref aA), (3, .int z113)] dL_law_352 (by decide) rfl ?_
                                                              refine x_iload C dL_law_354 0 rfl ?_
                                                              refine x_iconst C (v := 3) dL_law_356 (by decide) ?_
                                                              have hJ144 : ∀ (r9 : Int32), jL_body_396 = some r9 → (∀ (cells9 slots9 pc9 : Nat) (lcs9 : List (Nat × Value)) (σ9 : Mem) (Y9 : va_W), decode cL_law pc9 = .ok (.ireturn, 1) → cells9 ≤ 18467 → slots9 ≤ 595971 → X p l e R s m args below meth c 6 cy D B cells9 slots9 Q pc9 lcs9 [.int r9] σ9 Y9) → X p l e R s m args below meth c 6 cy D B ((((((((((((((((((nc + 1) + 1) + 1) + 1) + 251) + 43) + 1) + 1) + 1) + 198) + 72) + 1) + 17449) + 56) + 2) + 2) + 2) + 4) ((((((((((((((((((ns + 6) + 6) + 6) + 6) + 496011) + 238) + 6) + 6) + 8) + 1188) + 432) + 6) + 91000) + 1476) + 12) + 12) + 12) + 24) Q 396 [] [] q56.2 (Y ++ [cAc cy aA q26]) := by
                                                                intro res9 h hret
                                                                unfold jL_body_396 at h
                                                                refine x_iconst C (v := 0) dL_law_396 (by decide) ?_
                                                                obtain rfl := Option.some.inj h
                                                                exact hret _ _ _ _ _ _ dL_law_397 (by omega) (by omega)
                                                              refine x_icmp_ne C (tgt := 396) dL_law_357 (by decide) (fun hc145 => ?_) (fun hc145 => ?_)
                                                              · rw [if_pos hc145] at h
                                                                refine x_widen (cells2 := ((((((((((((((((((nc + 1) + 1) + 1) + 1) + 251) + 43) + 1) + 1) + 1) + 198) + 72) + 1) + 17449) + 56) + 2) + 2) + 2) + 4)) (slots2 := ((((((((((((((((((ns + 6) + 6) + 6) + 6) + 496011) + 238) + 6) + 6) + 8) + 1188) + 432) + 6) + 91000) + 1476) + 12) + 12) + 12) + 24)) (by omega) (by omega) ?_
                                                                refine x_sub [] rfl ?_
                                                                exact hJ144 _ h hret
                                                              · rw [if_neg hc145] at h
                                                                refine x_aload_n C dL_law_360 rfl 1 rfl ?_
                                                                obtain ⟨q62, hk146, h⟩ := Option.bind_eq_some_iff.mp h
                                                                refine x_callS C (As := [.ref (sA ek)]) (rest := []) (lw_g_mk tw_767 rfl) (okL_bookingsOf l cy D B ek xs L hxs hLs q56.2 (Y ++ [cAc cy aA q26]) _ hk146) rfl rfl (by rw [hR9]; decide) (lw_g_mk tw_768 rfl) (lw_g_mk tw_0 rfl) (by decide) rfl (lw_g_mk tw_766 rfl) rfl (Nat.le_of_ble_eq_true rfl) dL_law_361 ⟨by rw [hRc]; omega, by rw [hRs]; omega⟩ ?_
                                                                refine x_if_eq C (tgt := 392) dL_law_364 (by decide) (fun hc147 => ?_) (fun hc147 => ?_)
                                                                · rw [if_pos hc147] at h
                                                                  refine x_iconst C (v := 1) dL_law_392 (by decide) ?_
                                                                  refine x_goto C (tgt := 397) dL_law_393 (by decide) ?_
                                                                  obtain rfl := Option.some.inj h
                                                                  exact hret _ _ _ _ _ _ dL_law_397 (by omega) (by omega)
                                                                · rw [if_neg hc147] at h
                                                                  refine x_aload_n C dL_law_367 rfl 2 rfl ?_
                                                                  refine x_iconst C (v := 0) dL_law_368 (by decide) ?_
                                                                  refine x_bipush C (v := 8) dL_law_369 (by decide) ?_
                                                                  obtain ⟨q63, hk148, h⟩ := Option.bind_eq_some_iff.mp h
                                                                  refine x_callSW C (As := [.ref (B + oHB), .int (0 : Int32), .int (8 : Int32)]) (rest := []) (cells2 := ((((((((((((((((((nc + 1) + 1) + 1) + 1) + 251) + 43) + 1) + 1) + 1) + 198) + 72) + 1) + 17449) + 56) + 2) + 2) + 2) + 2)) (slots2 := ((((((((((((((((((ns + 6) + 6) + 6) + 6) + 496011) + 238) + 6) + 6) + 8) + 1188) + 432) + 6) + 91000) + 1476) + 12) + 12) + 12) + 12)) (lw_g_mk tw_1056 rfl) (okL_noNumber l hlf cy D B ek (0 : Int32) (8 : Int32) q56.2 (Y ++ [cAc cy aA q26]) _ hk148) rfl rfl (by rw [hR9]; decide) (lw_g_mk tw_1057 rfl) (lw_g_mk tw_0 rfl) (by decide) rfl (lw_g_mk tw_1055 rfl) rfl (Nat.le_of_ble_eq_true rfl) dL_law_371 ⟨by rw [hRc]; omega, by rw [hRs]; omega⟩ rfl rfl ?_
                                                                  refine x_iconst C (v := 2) dL_law_374 (by decide) ?_
                                                                  refine x_icmp_ne C (tgt := 396) dL_law_375 (by decide) (fun hc149 => ?_) (fun hc149 => ?_)
                                                                  · rw [if_pos hc149] at h
                                                                    refine x_widen (cells2 := ((((((((((((((((((nc + 1) + 1) + 1) + 1) + 251) + 43) + 1) + 1) + 1) + 198) + 72) + 1) + 17449) + 56) + 2) + 2) + 2) + 4)) (slots2 := ((((((((((((((((((ns + 6) + 6) + 6) + 6) + 496011) + 238) + 6) + 6) + 8) + 1188) + 432) + 6) + 91000) + 1476) + 12) + 12) + 12) + 24)) (by omega) (by omega) ?_
                                                                    refine x_sub [] rfl ?_
                                                                    exact hJ144 _ h hret
                                                                  · rw [if_neg hc149] at h
                                                                    refine x_aload_n C dL_law_378 rfl 2 rfl ?_
                                                                    refine x_iconst C (v := 0) dL_law_379 (by decide) ?_
                                                                    refine x_aload_n C dL_law_380 rfl 1 rfl ?_
                                                                    refine x_iconst C (v := 0) dL_law_381 (by decide) ?_
                                                                    obtain ⟨q64, hk150, h⟩ := Option.bind_eq_some_iff.mp h
                                                                    refine x_callS C (As := [.ref (sA ek), .int (0 : Int32)]) (rest := [.int (0 : Int32), .ref (B + oHB)]) (lw_g_mk tw_1059 rfl) (okL_people l cy D B ek xs L hxs hLs (0 : Int32) q56.2 (Y ++ [cAc cy aA q26]) _ hk150) rfl rfl (by rw [hR9]; decide) (lw_g_mk tw_1060 rfl) (lw_g_mk tw_0 rfl) (by decide) rfl (lw_g_mk tw_1058 rfl) rfl (Nat.le_of_ble_eq_true rfl) dL_law_382 ⟨by rw [hRc]; omega, by rw [hRs]; omega⟩ ?_
                                                                    obtain ⟨q65, hk151, h⟩ := Option.bind_eq_some_iff.mp h
                                                                    refine x_callSW C (As := [.ref (B + oHB), .int (0 : Int32), .int q64]) (rest := []) (cells2 := (((((((((((((((((((nc + 1) + 1) + 1) + 1) + 251) + 43) + 1) + 1) + 1) + 198) + 72) + 1) + 17449) + 56) + 2) + 2) + 2) + 2) + 2)) (slots2 := (((((((((((((((((((ns + 6) + 6) + 6) + 6) + 496011) + 238) + 6) + 6) + 8) + 1188) + 432) + 6) + 91000) + 1476) + 12) + 12) + 12) + 12) + 12)) (lw_g_mk tw_1022 rfl) (okL_noBed l hlf cy D B ek (0 : Int32) q64 q56.2 (Y ++ [cAc cy aA q26]) _ hk151) rfl rfl (by rw [hR9]; decide) (lw_g_mk tw_1023 rfl) (lw_g_mk tw_0 rfl) (by decide) rfl (lw_g_mk tw_1021 rfl) rfl (Nat.le_of_ble_eq_true rfl) dL_law_385 ⟨by rw [hRc]; omega, by rw [hRs]; omega⟩ rfl rfl ?_
                                                                    refine x_iconst C (v := 1) dL_law_388 (by decide) ?_
                                                                    refine x_icmp_ne C (tgt := 396) dL_law_389 (by decide) (fun hc152 => ?_) (fun hc152 => ?_)
                                                                    · rw [if_pos hc152] at h
                                                                      refine x_widen (cells2 := ((((((((((((((((((nc + 1) + 1) + 1) + 1) + 251) + 43) + 1) + 1) + 1) + 198) + 72) + 1) + 17449) + 56) + 2) + 2) + 2) + 4)) (slots2 := ((((((((((((((((((ns + 6) + 6) + 6) + 6) + 496011) + 238) + 6) + 6) + 8) + 1188) + 432) + 6) + 91000) + 1476) + 12) + 12) + 12) + 24)) (by omega) (by omega) ?_
                                                                      refine x_sub [] rfl ?_
                                                                      exact hJ144 _ h hret
                                                                    · rw [if_neg hc152] at h
                                                                      refine x_iconst C (v := 1) dL_law_392 (by decide) ?_
                                                                      refine x_goto C (tgt := 397) dL_law_393 (by decide) ?_
                                                                      obtain rfl := Option.some.inj h
                                                                      exact hret _ _ _ _ _ _ dL_law_397 (by omega) (by omega)
                                                            · rw [if_neg hc138] at h
                                                              refine x_iconst C (v := 0) dL_law_323 (by decide) ?_
                                                              obtain rfl := Option.some.inj h
                                                              exact hret _ _ _ _ _ _ dL_law_324 (by omega) (by omega)
                                                      · cases hv128
                                                    · rcases q50 with x51 | e52
                                                      · cases hv130
                                                      · rw [Sum.elim_inr] at h
                                                        cases h
                                                  · rw [Sum.elim_inr] at h
                                                    show ∀ (cells9 slots9 pc9 : Nat) (lcs9 : List (Nat × Value)) (σ9 : Mem) (Y9 : va_W), decode cL_law pc9 = .ok (.ireturn, 1) → cells9 ≤ 18467 → slots9 ≤ 595971 → X p l e R s m args below meth c 6 cy D B cells9 slots9 Q pc9 lcs9 [.int w234] σ9 Y9
                                                    cases h
                                                    exact hret
                                              · rw [Sum.elim_inr] at h
                                                show ∀ (cells9 slots9 pc9 : Nat) (lcs9 : List (Nat × Value)) (σ9 : Mem) (Y9 : va_W), decode cL_law pc9 = .ok (.ireturn, 1) → cells9 ≤ 18467 → slots9 ≤ 595971 → X p l e R s m args below meth c 6 cy D B cells9 slots9 Q pc9 lcs9 [.int w113] σ9 Y9
                                                cases h
                                                exact hret
                                          · rw [if_neg hc52] at h
                                            refine x_iconst C (v := 0) dL_law_101 (by decide) ?_
                                            obtain rfl := Option.some.inj h
                                            exact hret _ _ _ _ _ _ dL_law_102 (by omega) (by omega)
                                        · cases hv47
                                      · rcases q22 with x23 | e24
                                        · cases hv49
                                        · rw [Sum.elim_inr] at h
                                          cases h
                                  · cases hv39
                                · rcases q18 with x19 | e20
                                  · cases hv41
                                  · rw [Sum.elim_inr] at h
                                    cases h
                            · rw [if_neg hc32] at h
                              refine x_iconst C (v := 0) dL_law_60 (by decide) ?_
                              obtain rfl := Option.some.inj h
                              exact hret _ _ _ _ _ _ dL_law_61 (by omega) (by omega)
                      · cases hv24
                    · rcases q10 with x11 | e12
                      · cases hv26
                      · rw [Sum.elim_inr] at h
                        cases h
                · cases hv17
              · rcases q7 with x8 | e9
                · cases hv19
                · rw [Sum.elim_inr] at h
                  cases h
          · cases hv10
        · rcases q4 with x5 | e6
          · cases hv12
          · rw [Sum.elim_inr] at h
            cases h
    · cases hv3
  · rcases q1 with x2 | e3
    · cases hv5
    · rw [Sum.elim_inr] at h
      cases h
