def fL_law22 (xs : Nat → Int32) (L : Nat) (i : Int32) (σ : Mem) (μ : Mem) (ω : Mem) : Option ((Mem × Mem × Mem) ⊕ Unit) := ((fX5_splits σ).bind fun q1 => ((fX6_splits μ).bind fun q2 => (if q1 = q2.1 then (some (.inl (σ, q2.2, ω))) else (some (.inr ())))))
set_option maxHeartbeats 4000000 in
set_option maxRecDepth 100000 in
theorem okL_law22 {p : Program} {l : Launch} {e : Env} {R : Room} {s : State} {m : MethodId} {args : Array Value} {below : List Frame} {meth : Method} {c : Code} {cy : Nat → ClassId} {D : va_G} {B : Nat} {ek : EK} {Q : State → Prop} (C : Cx p s m args c 9 cy D B ek "HostelBedsLaw" cL_law) (hlf : l.stackTraces = false) (h9 : ¬ cy 9 = 0) (hR9 : R = room_1) {b L : Nat} {xs : Nat → Int32} (hX : va_X b L xs s s.heap) (hbl : b < s.heap.size) (hbA : ¬ aB B b) (nc ns : Nat) (hnc : nc + 8 ≤ R.cells) (hns : ns + 48 ≤ R.slots) (i : Int32) (σ μ ω : Mem) (r9 : (Mem × Mem × Mem) ⊕ Unit) (h : fL_law22 xs L i σ μ ω = some r9) (hcont : ∀ q9, r9 = .inl q9 → ∀ nc2 ns2 : Nat, nc2 ≤ nc + 8 → ns2 ≤ ns + 48 → X p l e R s m args below meth c 9 cy D B nc2 ns2 Q 2861 [(0, .ref b), (1, .ref (B + oHB)), (2, .ref (B + oMd)), (3, .ref (B + oLOut)), (4, .ref (B + oLOutD)), (5, .int i)] [] q9.1 q9.2.1 q9.2.2) (hne : ∀ u, r9 ≠ .inr u) : X p l e R s m args below meth c 9 cy D B nc ns Q 1510 [(0, .ref b), (1, .ref (B + oHB)), (2, .ref (B + oMd)), (3, .ref (B + oLOut)), (4, .ref (B + oLOutD)), (5, .int i)] [] σ μ ω := by
  unfold fL_law22 at h
  refine x_aload_n C dL_law_1510 rfl 1 rfl ?_
  obtain ⟨q1, hk1, h⟩ := Option.bind_eq_some_iff.mp h
  refine x_callV C (As := []) (rest := []) (lw_g_mk tw_347 rfl) (lw_g_mk tw_348 rfl) (c_HB) (C1 := "HostelBeds") (T := TX5) (N := 12) (ci := 5) rfl (okX5_splits l cy D B ek σ μ ω _ hk1) rfl rfl (by rw [hR9]; decide) (lw_g_mk tw_349 rfl) (lw_g_mk tw_1 rfl) (by decide) rfl (lw_g_mk tw_346 rfl) rfl (Nat.le_of_ble_eq_true rfl) dL_law_1511 ⟨by omega, by omega⟩ ?_
  refine x_aload_n C dL_law_1514 rfl 2 rfl ?_
  obtain ⟨q2, hk2, h⟩ := Option.bind_eq_some_iff.mp h
  refine x_callV C (As := []) (rest := [.int q1]) (lw_g_mk tw_1575 rfl) (lw_g_mk tw_1576 rfl) (c_Md) (C1 := "HostelBedsModel") (T := TX6) (N := 27) (ci := 6) rfl (okX6_splits l cy D B ek σ μ ω _ hk2) rfl rfl (by rw [hR9]; decide) (lw_g_mk tw_1577 rfl) (lw_g_mk tw_7 rfl) (by decide) rfl (lw_g_mk tw_1574 rfl) rfl (Nat.le_of_ble_eq_true rfl) dL_law_1515 ⟨by omega, by omega⟩ ?_
  refine x_icmp_eq C (tgt := 2861) dL_law_1518 (by decide) (fun hc3 => ?_) (fun hc3 => ?_)
  · rw [if_pos hc3] at h
    cases h
    exact hcont _ rfl _ _ (by omega) (by omega)
  · rw [if_neg hc3] at h
    refine x_iconst C (v := 0) dL_law_1521 (by decide) ?_
    cases h
    exact absurd rfl (hne ())
def jL_law23_1576 (σ : Mem) (q2 : Int32 × Mem) (q1 : Int32 × Mem) : Option ((Mem × Mem × Mem) ⊕ Unit) := (some (.inl (σ, q2.2, q1.2)))
def fL_law23 (xs : Nat → Int32) (L : Nat) (i : Int32) (σ : Mem) (μ : Mem) (ω : Mem) : Option ((Mem × Mem × Mem) ⊕ Unit) := (gd (inb (i + (1 : Int32)) L) ((fL_extendable_LOut (xs (i + (1 : Int32)).toNatClampNeg) σ ω).bind fun q1 => ((fX6_extendable (xs (i + (1 : Int32)).toNatClampNeg) μ).bind fun q2 => ((fX6_thrown q2.2).bind fun q3 => (if q3 = q1.1 then (if ¬ q1.1 = 0 then (jL_law23_1576 σ q2 q1) else (if (lg_cmp (rJ q1.2 20 0 (0 : Int32).toNatClampNeg) q2.1.toInt64) = 0 then (jL_law23_1576 σ q2 q1) else (some (.inr ())))) else (some (.inr ())))))))
set_option maxHeartbeats 4000000 in
set_option maxRecDepth 100000 in
theorem okL_law23 {p : Program} {l : Launch} {e : Env} {R : Room} {s : State} {m : MethodId} {args : Array Value} {below : List Frame} {meth : Method} {c : Code} {cy : Nat → ClassId} {D : va_G} {B : Nat} {ek : EK} {Q : State → Prop} (C : Cx p s m args c 9 cy D B ek "HostelBedsLaw" cL_law) (hlf : l.stackTraces = false) (h9 : ¬ cy 9 = 0) (hR9 : R = room_1) {b L : Nat} {xs : Nat → Int32} (hX : va_X b L xs s s.heap) (hbl : b < s.heap.size) (hbA : ¬ aB B b) (nc ns : Nat) (hnc : nc + 8 ≤ R.cells) (hns : ns + 48 ≤ R.slots) (i : Int32) (σ μ ω : Mem) (r9 : (Mem × Mem × Mem) ⊕ Unit) (h : fL_law23 xs L i σ μ ω = some r9) (hcont : ∀ q9, r9 = .inl q9 → ∀ nc2 ns2 : Nat, nc2 ≤ nc + 8 → ns2 ≤ ns + 48 → X p l e R s m args below meth c 9 cy D B nc2 ns2 Q 2861 [(0, .ref b), (1, .ref (B + oHB)), (2, .ref (B + oMd)), (3, .ref (B + oLOut)), (4, .ref (B + oLOutD)), (5, .int i)] [] q9.1 q9.2.1 q9.2.2) (hne : ∀ u, r9 ≠ .inr u) : X p l e R s m args below meth c 9 cy D B nc ns Q 1523 [(0, .ref b), (1, .ref (B + oHB)), (2, .ref (B + oMd)), (3, .ref (B + oLOut)), (4, .ref (B + oLOutD)), (5, .int i)] [] σ μ ω := by
  unfold fL_law23 at h
  refine x_aload_n C dL_law_1523 rfl 1 rfl ?_
  refine x_aload_n C dL_law_1524 rfl 0 rfl ?_
  refine x_iload C dL_law_1525 5 rfl ?_
  refine x_iconst C (v := 1) dL_law_1527 (by decide) ?_
  refine x_iadd C dL_law_1528 ?_
  obtain ⟨hg1, h⟩ := gd_some h
  refine x_sld C hX hbl hbA hg1 dL_law_1529 ?_
  refine x_aload_n C dL_law_1530 rfl 3 rfl ?_
  obtain ⟨q1, hk2, h⟩ := Option.bind_eq_some_iff.mp h
  refine x_callSW C (As := [.ref (B + oHB), .int (xs (i + (1 : Int32)).toNatClampNeg), .ref (B + oLOut)]) (rest := []) (cells2 := (nc + 1)) (slots2 := (ns + 6)) (lw_g_mk tw_939 rfl) (okL_extendable_LOut l hlf cy D B ek h9 (xs (i + (1 : Int32)).toNatClampNeg) σ μ ω _ hk2) rfl rfl (by rw [hR9]; decide) (lw_g_mk tw_940 rfl) (lw_g_mk tw_0 rfl) (by decide) rfl (lw_g_mk tw_938 rfl) rfl (Nat.le_of_ble_eq_true rfl) dL_law_1531 ⟨by omega, by omega⟩ rfl rfl ?_
  refine x_istore C [(6, .int q1.1), (0, .ref b), (1, .ref (B + oHB)), (2, .ref (B + oMd)), (3, .ref (B + oLOut)), (4, .ref (B + oLOutD)), (5, .int i)] dL_law_1534 (by decide) rfl ?_
  refine x_aload_n C dL_law_1536 rfl 3 rfl ?_
  refine x_aload_n C dL_law_1537 rfl 1 rfl ?_
  refine x_iload C dL_law_1538 6 rfl ?_
  refine x_iconst C (v := 1) dL_law_1540 (by decide) ?_
  refine x_iadd C dL_law_1541 ?_
  refine x_sld C hX hbl hbA hg1 dL_law_1542 ?_
  obtain ⟨q2, hk3, h⟩ := Option.bind_eq_some_iff.mp h
  refine x_callV C (As := [.int (xs (i + (1 : Int32)).toNatClampNeg)]) (rest := []) (lw_g_mk tw_1579 rfl) (lw_g_mk tw_1580 rfl) (c_Md) (C1 := "HostelBedsModel") (T := TX6) (N := 27) (ci := 6) rfl (okX6_extendable l cy D B ek (xs (i + (1 : Int32)).toNatClampNeg) σ μ q1.2 _ hk3) rfl rfl (by rw [hR9]; decide) (lw_g_mk tw_1581 rfl) (lw_g_mk tw_7 rfl) (by decide) rfl (lw_g_mk tw_1578 rfl) rfl (Nat.le_of_ble_eq_true rfl) dL_law_1543 ⟨by omega, by omega⟩ ?_
  refine x_istore C [(7, .int q2.1), (6, .int q1.1), (0, .ref b), (1, .ref (B + oHB)), (2, .ref (B + oMd)), (3, .ref (B + oLOut)), (4, .ref (B + oLOutD)), (5, .int i)] dL_law_1546 (by decide) rfl ?_
  refine x_aload_n C dL_law_1548 rfl 4 rfl ?_
  obtain ⟨q3, hk4, h⟩ := Option.bind_eq_some_iff.mp h
  refine x_callV C (As := []) (rest := []) (lw_g_mk tw_1215 rfl) (lw_g_mk tw_1216 rfl) (c_Md) (C1 := "HostelBedsModel") (T := TX6) (N := 27) (ci := 6) rfl (okX6_thrown l cy D B ek σ q2.2 q1.2 _ hk4) rfl rfl (by rw [hR9]; decide) (lw_g_mk tw_1217 rfl) (lw_g_mk tw_7 rfl) (by decide) rfl (lw_g_mk tw_1214 rfl) rfl (Nat.le_of_ble_eq_true rfl) dL_law_1549 ⟨by omega, by omega⟩ ?_
  refine x_iload C dL_law_1552 1 rfl ?_
  refine x_icmp_eq C (tgt := 1559) dL_law_1554 (by decide) (fun hc5 => ?_) (fun hc5 => ?_)
  · rw [if_pos hc5] at h
    refine x_iload C dL_law_1559 1 rfl ?_
    have hJ6 : ∀ (r9 : (Mem × Mem × Mem) ⊕ Unit), jL_law23_1576 σ q2 q1 = some r9 → (∀ q9, r9 = .inl q9 → ∀ nc2 ns2 : Nat, nc2 ≤ nc + 8 → ns2 ≤ ns + 48 → X p l e R s m args below meth c 9 cy D B nc2 ns2 Q 2861 [(0, .ref b), (1, .ref (B + oHB)), (2, .ref (B + oMd)), (3, .ref (B + oLOut)), (4, .ref (B + oLOutD)), (5, .int i)] [] q9.1 q9.2.1 q9.2.2) → (∀ u, r9 ≠ .inr u) → X p l e R s m args below meth c 9 cy D B (nc + 1) (ns + 6) Q 1576 [(0, .ref b), (1, .ref (B + oHB)), (2, .ref (B + oMd)), (3, .ref (B + oLOut)), (4, .ref (B + oLOutD)), (5, .int i)] [] σ q2.2 q1.2 := by
      intro r9 h hcont hne
      unfold jL_law23_1576 at h
      refine x_goto C (tgt := 2861) dL_law_1576 (by decide) ?_
      cases h
      exact hcont _ rfl _ _ (by omega) (by omega)
    refine x_if_ne C (tgt := 1576) dL_law_1561 (by decide) (fun hc7 => ?_) (fun hc7 => ?_)
    · rw [if_pos hc7] at h
      refine x_sub [2, 3, 4, 5, 6, 7] rfl ?_
      exact hJ6 _ h hcont hne
    · rw [if_neg hc7] at h
      refine x_aload_n C dL_law_1564 rfl 5 rfl ?_
      refine x_iconst C (v := 0) dL_law_1565 (by decide) ?_
      refine x_lald C _ (c_LOut h9) (by decide : inb (0 : Int32) 1) dL_law_1566 ?_
      refine x_iload C dL_law_1567 0 rfl ?_
      refine x_i2l C dL_law_1569 ?_
      refine x_lcmp C dL_law_1570 ?_
      refine x_if_eq C (tgt := 1576) dL_law_1571 (by decide) (fun hc8 => ?_) (fun hc8 => ?_)
      · rw [if_pos hc8] at h
        refine x_sub [2, 3, 4, 5, 6, 7] rfl ?_
        exact hJ6 _ h hcont hne
      · rw [if_neg hc8] at h
        refine x_iconst C (v := 0) dL_law_1574 (by decide) ?_
        cases h
        exact absurd rfl (hne ())
  · rw [if_neg hc5] at h
    refine x_iconst C (v := 0) dL_law_1557 (by decide) ?_
    cases h
    exact absurd rfl (hne ())
def jL_law24_1632 (σ : Mem) (q2 : Int32 × Mem) (q1 : Int32 × Mem) : Option ((Mem × Mem × Mem) ⊕ Unit) := (some (.inl (σ, q2.2, q1.2)))
def fL_law24 (xs : Nat → Int32) (L : Nat) (i : Int32) (σ : Mem) (μ : Mem) (ω : Mem) : Option ((Mem × Mem × Mem) ⊕ Unit) := (gd (inb (i + (1 : Int32)) L) ((fL_pays_LOut (xs (i + (1 : Int32)).toNatClampNeg) σ ω).bind fun q1 => ((fX6_pays (xs (i + (1 : Int32)).toNatClampNeg) μ).bind fun q2 => ((fX6_thrown q2.2).bind fun q3 => (if q3 = q1.1 then (if ¬ q1.1 = 0 then (jL_law24_1632 σ q2 q1) else (if (lg_cmp (rJ q1.2 20 0 (0 : Int32).toNatClampNeg) q2.1.toInt64) = 0 then (jL_law24_1632 σ q2 q1) else (some (.inr ())))) else (some (.inr ())))))))
set_option maxHeartbeats 4000000 in
set_option maxRecDepth 100000 in
theorem okL_law24 {p : Program} {l : Launch} {e : Env} {R : Room} {s : State} {m : MethodId} {args : Array Value} {below : List Frame} {meth : Method} {c : Code} {cy : Nat → ClassId} {D : va_G} {B : Nat} {ek : EK} {Q : State → Prop} (C : Cx p s m args c 9 cy D B ek "HostelBedsLaw" cL_law) (hlf : l.stackTraces = false) (h9 : ¬ cy 9 = 0) (hR9 : R = room_1) {b L : Nat} {xs : Nat → Int32} (hX : va_X b L xs s s.heap) (hbl : b < s.heap.size) (hbA : ¬ aB B b) (nc ns : Nat) (hnc : nc + 8 ≤ R.cells) (hns : ns + 48 ≤ R.slots) (i : Int32) (σ μ ω : Mem) (r9 : (Mem × Mem × Mem) ⊕ Unit) (h : fL_law24 xs L i σ μ ω = some r9) (hcont : ∀ q9, r9 = .inl q9 → ∀ nc2 ns2 : Nat, nc2 ≤ nc + 8 → ns2 ≤ ns + 48 → X p l e R s m args below meth c 9 cy D B nc2 ns2 Q 2861 [(0, .ref b), (1, .ref (B + oHB)), (2, .ref (B + oMd)), (3, .ref (B + oLOut)), (4, .ref (B + oLOutD)), (5, .int i)] [] q9.1 q9.2.1 q9.2.2) (hne : ∀ u, r9 ≠ .inr u) : X p l e R s m args below meth c 9 cy D B nc ns Q 1579 [(0, .ref b), (1, .ref (B + oHB)), (2, .ref (B + oMd)), (3, .ref (B + oLOut)), (4, .ref (B + oLOutD)), (5, .int i)] [] σ μ ω := by
  unfold fL_law24 at h
  refine x_aload_n C dL_law_1579 rfl 1 rfl ?_
  refine x_aload_n C dL_law_1580 rfl 0 rfl ?_
  refine x_iload C dL_law_1581 5 rfl ?_
  refine x_iconst C (v := 1) dL_law_1583 (by decide) ?_
  refine x_iadd C dL_law_1584 ?_
  obtain ⟨hg1, h⟩ := gd_some h
  refine x_sld C hX hbl hbA hg1 dL_law_1585 ?_
  refine x_aload_n C dL_law_1586 rfl 3 rfl ?_
  obtain ⟨q1, hk2, h⟩ := Option.bind_eq_some_iff.mp h
  refine x_callSW C (As := [.ref (B + oHB), .int (xs (i + (1 : Int32)).toNatClampNeg), .ref (B + oLOut)]) (rest := []) (cells2 := (nc + 1)) (slots2 := (ns + 6)) (lw_g_mk tw_950 rfl) (okL_pays_LOut l hlf cy D B ek h9 (xs (i + (1 : Int32)).toNatClampNeg) σ μ ω _ hk2) rfl rfl (by rw [hR9]; decide) (lw_g_mk tw_951 rfl) (lw_g_mk tw_0 rfl) (by decide) rfl (lw_g_mk tw_949 rfl) rfl (Nat.le_of_ble_eq_true rfl) dL_law_1587 ⟨by omega, by omega⟩ rfl rfl ?_
  refine x_istore C [(6, .int q1.1), (0, .ref b), (1, .ref (B + oHB)), (2, .ref (B + oMd)), (3, .ref (B + oLOut)), (4, .ref (B + oLOutD)), (5, .int i)] dL_law_1590 (by decide) rfl ?_
  refine x_aload_n C dL_law_1592 rfl 3 rfl ?_
  refine x_aload_n C dL_law_1593 rfl 1 rfl ?_
  refine x_iload C dL_law_1594 6 rfl ?_
  refine x_iconst C (v := 1) dL_law_1596 (by decide) ?_
  refine x_iadd C dL_law_1597 ?_
  refine x_sld C hX hbl hbA hg1 dL_law_1598 ?_
  obtain ⟨q2, hk3, h⟩ := Option.bind_eq_some_iff.mp h
  refine x_callV C (As := [.int (xs (i + (1 : Int32)).toNatClampNeg)]) (rest := []) (lw_g_mk tw_1587 rfl) (lw_g_mk tw_1588 rfl) (c_Md) (C1 := "HostelBedsModel") (T := TX6) (N := 27) (ci := 6) rfl (okX6_pays l cy D B ek (xs (i + (1 : Int32)).toNatClampNeg) σ μ q1.2 _ hk3) rfl rfl (by rw [hR9]; decide) (lw_g_mk tw_1589 rfl) (lw_g_mk tw_7 rfl) (by decide) rfl (lw_g_mk tw_1586 rfl) rfl (Nat.le_of_ble_eq_true rfl) dL_law_1599 ⟨by omega, by omega⟩ ?_
  refine x_istore C [(7, .int q2.1), (6, .int q1.1), (0, .ref b), (1, .ref (B + oHB)), (2, .ref (B + oMd)), (3, .ref (B + oLOut)), (4, .ref (B + oLOutD)), (5, .int i)] dL_law_1602 (by decide) rfl ?_
  refine x_aload_n C dL_law_1604 rfl 4 rfl ?_
  obtain ⟨q3, hk4, h⟩ := Option.bind_eq_some_iff.mp h
  refine x_callV C (As := []) (rest := []) (lw_g_mk tw_1215 rfl) (lw_g_mk tw_1216 rfl) (c_Md) (C1 := "HostelBedsModel") (T := TX6) (N := 27) (ci := 6) rfl (okX6_thrown l cy D B ek σ q2.2 q1.2 _ hk4) rfl rfl (by rw [hR9]; decide) (lw_g_mk tw_1217 rfl) (lw_g_mk tw_7 rfl) (by decide) rfl (lw_g_mk tw_1214 rfl) rfl (Nat.le_of_ble_eq_true rfl) dL_law_1605 ⟨by omega, by omega⟩ ?_
  refine x_iload C dL_law_1608 1 rfl ?_
  refine x_icmp_eq C (tgt := 1615) dL_law_1610 (by decide) (fun hc5 => ?_) (fun hc5 => ?_)
  · rw [if_pos hc5] at h
    refine x_iload C dL_law_1615 1 rfl ?_
    have hJ6 : ∀ (r9 : (Mem × Mem × Mem) ⊕ Unit), jL_law24_1632 σ q2 q1 = some r9 → (∀ q9, r9 = .inl q9 → ∀ nc2 ns2 : Nat, nc2 ≤ nc + 8 → ns2 ≤ ns + 48 → X p l e R s m args below meth c 9 cy D B nc2 ns2 Q 2861 [(0, .ref b), (1, .ref (B + oHB)), (2, .ref (B + oMd)), (3, .ref (B + oLOut)), (4, .ref (B + oLOutD)), (5, .int i)] [] q9.1 q9.2.1 q9.2.2) → (∀ u, r9 ≠ .inr u) → X p l e R s m args below meth c 9 cy D B (nc + 1) (ns + 6) Q 1632 [(0, .ref b), (1, .ref (B + oHB)), (2, .ref (B + oMd)), (3, .ref (B + oLOut)), (4, .ref (B + oLOutD)), (5, .int i)] [] σ q2.2 q1.2 := by
      intro r9 h hcont hne
      unfold jL_law24_1632 at h
      refine x_goto C (tgt := 2861) dL_law_1632 (by decide) ?_
      cases h
      exact hcont _ rfl _ _ (by omega) (by omega)
    refine x_if_ne C (tgt := 1632) dL_law_1617 (by decide) (fun hc7 => ?_) (fun hc7 => ?_)
    · rw [if_pos hc7] at h
      refine x_sub [2, 3, 4, 5, 6, 7] rfl ?_
      exact hJ6 _ h hcont hne
    · rw [if_neg hc7] at h
      refine x_aload_n C dL_law_1620 rfl 5 rfl ?_
      refine x_iconst C (v := 0) dL_law_1621 (by decide) ?_
      refine x_lald C _ (c_LOut h9) (by decide : inb (0 : Int32) 1) dL_law_1622 ?_
      refine x_iload C dL_law_1623 0 rfl ?_
      refine x_i2l C dL_law_1625 ?_
      refine x_lcmp C dL_law_1626 ?_
      refine x_if_eq C (tgt := 1632) dL_law_1627 (by decide) (fun hc8 => ?_) (fun hc8 => ?_)
      · rw [if_pos hc8] at h
        refine x_sub [2, 3, 4, 5, 6, 7] rfl ?_
        exact hJ6 _ h hcont hne
      · rw [if_neg hc8] at h
        refine x_iconst C (v := 0) dL_law_1630 (by decide) ?_
        cases h
        exact absurd rfl (hne ())
  · rw [if_neg hc5] at h
    refine x_iconst C (v := 0) dL_law_1613 (by decide) ?_
    cases h
    exact absurd rfl (hne ())
def fL_law25 (xs : Nat → Int32) (L : Nat) (i : Int32) (σ : Mem) (μ : Mem) (ω : Mem) : Option ((Mem × Mem × Mem) ⊕ Unit) := ((fX5_walkCost σ).bind fun q1 => ((fX6_walkCost μ).bind fun q2 => (if q1 = q2.1 then (some (.inl (σ, q2.2, ω))) else (some (.inr ())))))
set_option maxHeartbeats 4000000 in
set_option maxRecDepth 100000 in
theorem okL_law25 {p : Program} {l : Launch} {e : Env} {R : Room} {s : State} {m : MethodId} {args : Array Value} {below : List Frame} {meth : Method} {c : Code} {cy : Nat → ClassId} {D : va_G} {B : Nat} {ek : EK} {Q : State → Prop} (C : Cx p s m args c 9 cy D B ek "HostelBedsLaw" cL_law) (hlf : l.stackTraces = false) (h9 : ¬ cy 9 = 0) (hR9 : R = room_1) {b L : Nat} {xs : Nat → Int32} (hX : va_X b L xs s s.heap) (hbl : b < s.heap.size) (hbA : ¬ aB B b) (nc ns : Nat) (hnc : nc + 8 ≤ R.cells) (hns : ns + 48 ≤ R.slots) (i : Int32) (σ μ ω : Mem) (r9 : (Mem × Mem × Mem) ⊕ Unit) (h : fL_law25 xs L i σ μ ω = some r9) (hcont : ∀ q9, r9 = .inl q9 → ∀ nc2 ns2 : Nat, nc2 ≤ nc + 8 → ns2 ≤ ns + 48 → X p l e R s m args below meth c 9 cy D B nc2 ns2 Q 2861 [(0, .ref b), (1, .ref (B + oHB)), (2, .ref (B + oMd)), (3, .ref (B + oLOut)), (4, .ref (B + oLOutD)), (5, .int i)] [] q9.1 q9.2.1 q9.2.2) (hne : ∀ u, r9 ≠ .inr u) : X p l e R s m args below meth c 9 cy D B nc ns Q 1635 [(0, .ref b), (1, .ref (B + oHB)), (2, .ref (B + oMd)), (3, .ref (B + oLOut)), (4, .ref (B + oLOutD)), (5, .int i)] [] σ μ ω := by
  unfold fL_law25 at h
  refine x_aload_n C dL_law_1635 rfl 1 rfl ?_
  obtain ⟨q1, hk1, h⟩ := Option.bind_eq_some_iff.mp h
  refine x_callV C (As := []) (rest := []) (lw_g_mk tw_351 rfl) (lw_g_mk tw_352 rfl) (c_HB) (C1 := "HostelBeds") (T := TX5) (N := 12) (ci := 5) rfl (okX5_walkCost l cy D B ek σ μ ω _ hk1) rfl rfl (by rw [hR9]; decide) (lw_g_mk tw_353 rfl) (lw_g_mk tw_1 rfl) (by decide) rfl (lw_g_mk tw_350 rfl) rfl (Nat.le_of_ble_eq_true rfl) dL_law_1636 ⟨by omega, by omega⟩ ?_
  refine x_aload_n C dL_law_1639 rfl 2 rfl ?_
  obtain ⟨q2, hk2, h⟩ := Option.bind_eq_some_iff.mp h
  refine x_callV C (As := []) (rest := [.int q1]) (lw_g_mk tw_1595 rfl) (lw_g_mk tw_1596 rfl) (c_Md) (C1 := "HostelBedsModel") (T := TX6) (N := 27) (ci := 6) rfl (okX6_walkCost l cy D B ek σ μ ω _ hk2) rfl rfl (by rw [hR9]; decide) (lw_g_mk tw_1597 rfl) (lw_g_mk tw_7 rfl) (by decide) rfl (lw_g_mk tw_1594 rfl) rfl (Nat.le_of_ble_eq_true rfl) dL_law_1640 ⟨by omega, by omega⟩ ?_
  refine x_icmp_eq C (tgt := 2861) dL_law_1643 (by decide) (fun hc3 => ?_) (fun hc3 => ?_)
  · rw [if_pos hc3] at h
    cases h
    exact hcont _ rfl _ _ (by omega) (by omega)
  · rw [if_neg hc3] at h
    refine x_iconst C (v := 0) dL_law_1646 (by decide) ?_
    cases h
    exact absurd rfl (hne ())
def fL_law26 (xs : Nat → Int32) (L : Nat) (i : Int32) (σ : Mem) (μ : Mem) (ω : Mem) : Option ((Mem × Mem × Mem) ⊕ Unit) := ((fX5_net σ).bind fun q1 => ((fX6_net μ).bind fun q2 => (if q1 = q2.1 then (some (.inl (σ, q2.2, ω))) else (some (.inr ())))))
set_option maxHeartbeats 4000000 in
set_option maxRecDepth 100000 in
theorem okL_law26 {p : Program} {l : Launch} {e : Env} {R : Room} {s : State} {m : MethodId} {args : Array Value} {below : List Frame} {meth : Method} {c : Code} {cy : Nat → ClassId} {D : va_G} {B : Nat} {ek : EK} {Q : State → Prop} (C : Cx p s m args c 9 cy D B ek "HostelBedsLaw" cL_law) (hlf : l.stackTraces = false) (h9 : ¬ cy 9 = 0) (hR9 : R = room_1) {b L : Nat} {xs : Nat → Int32} (hX : va_X b L xs s s.heap) (hbl : b < s.heap.size) (hbA : ¬ aB B b) (nc ns : Nat) (hnc : nc + 8 ≤ R.cells) (hns : ns + 48 ≤ R.slots) (i : Int32) (σ μ ω : Mem) (r9 : (Mem × Mem × Mem) ⊕ Unit) (h : fL_law26 xs L i σ μ ω = some r9) (hcont : ∀ q9, r9 = .inl q9 → ∀ nc2 ns2 : Nat, nc2 ≤ nc + 8 → ns2 ≤ ns + 48 → X p l e R s m args below meth c 9 cy D B nc2 ns2 Q 2861 [(0, .ref b), (1, .ref (B + oHB)), (2, .ref (B + oMd)), (3, .ref (B + oLOut)), (4, .ref (B + oLOutD)), (5, .int i)] [] q9.1 q9.2.1 q9.2.2) (hne : ∀ u, r9 ≠ .inr u) : X p l e R s m args below meth c 9 cy D B nc ns Q 1648 [(0, .ref b), (1, .ref (B + oHB)), (2, .ref (B + oMd)), (3, .ref (B + oLOut)), (4, .ref (B + oLOutD)), (5, .int i)] [] σ μ ω := by
  unfold fL_law26 at h
  refine x_aload_n C dL_law_1648 rfl 1 rfl ?_
  obtain ⟨q1, hk1, h⟩ := Option.bind_eq_some_iff.mp h
  refine x_callV C (As := []) (rest := []) (lw_g_mk tw_355 rfl) (lw_g_mk tw_356 rfl) (c_HB) (C1 := "HostelBeds") (T := TX5) (N := 12) (ci := 5) rfl (okX5_net l cy D B ek σ μ ω _ hk1) rfl rfl (by rw [hR9]; decide) (lw_g_mk tw_357 rfl) (lw_g_mk tw_1 rfl) (by decide) rfl (lw_g_mk tw_354 rfl) rfl (Nat.le_of_ble_eq_true rfl) dL_law_1649 ⟨by omega, by omega⟩ ?_
  refine x_aload_n C dL_law_1652 rfl 2 rfl ?_
  obtain ⟨q2, hk2, h⟩ := Option.bind_eq_some_iff.mp h
  refine x_callV C (As := []) (rest := [.int q1]) (lw_g_mk tw_1603 rfl) (lw_g_mk tw_1604 rfl) (c_Md) (C1 := "HostelBedsModel") (T := TX6) (N := 27) (ci := 6) rfl (okX6_net l cy D B ek σ μ ω _ hk2) rfl rfl (by rw [hR9]; decide) (lw_g_mk tw_1605 rfl) (lw_g_mk tw_7 rfl) (by decide) rfl (lw_g_mk tw_1602 rfl) rfl (Nat.le_of_ble_eq_true rfl) dL_law_1653 ⟨by omega, by omega⟩ ?_
  refine x_icmp_eq C (tgt := 2861) dL_law_1656 (by decide) (fun hc3 => ?_) (fun hc3 => ?_)
  · rw [if_pos hc3] at h
    cases h
    exact hcont _ rfl _ _ (by omega) (by omega)
  · rw [if_neg hc3] at h
    refine x_iconst C (v := 0) dL_law_1659 (by decide) ?_
    cases h
    exact absurd rfl (hne ())
def jL_law27_1747 (q1 : Int32 × Mem × Mem) (q2 : UInt64 × Mem) : Option ((Mem × Mem × Mem) ⊕ Unit) := (some (.inl (q1.2.1, q2.2, q1.2.2)))
def fL_law27 (xs : Nat → Int32) (L : Nat) (i : Int32) (σ : Mem) (μ : Mem) (ω : Mem) : Option ((Mem × Mem × Mem) ⊕ Unit) := (gd (inb (i + (1 : Int32)) L) (gd (inb (i + (2 : Int32)) L) ((fL_chance_LOutD (xs (i + (1 : Int32)).toNatClampNeg) (xs (i + (2 : Int32)).toNatClampNeg) σ ω).bind fun q1 => ((fX6_chance (xs (i + (1 : Int32)).toNatClampNeg) (xs (i + (2 : Int32)).toNatClampNeg) μ).bind fun q2 => ((fX6_thrown q2.2).bind fun q3 => (if q3 = q1.1 then (if ¬ q1.1 = 0 then (jL_law27_1747 q1 q2) else (if (Op.cmpValue (FP.dcmp (rD q1.2.2 2 0 (0 : Int32).toNatClampNeg) q2.1) .l) = 0 then (jL_law27_1747 q1 q2) else (if (Op.cmpValue (FP.dcmp (rD q1.2.2 2 0 (0 : Int32).toNatClampNeg) (rD q1.2.2 2 0 (0 : Int32).toNatClampNeg)) .l) = 0 then (some (.inr ())) else (if ¬ (Op.cmpValue (FP.dcmp q2.1 q2.1) .l) = 0 then (jL_law27_1747 q1 q2) else (some (.inr ())))))) else (some (.inr ()))))))))
set_option maxHeartbeats 4000000 in
set_option maxRecDepth 100000 in
theorem okL_law27 {p : Program} {l : Launch} {e : Env} {R : Room} {s : State} {m : MethodId} {args : Array Value} {below : List Frame} {meth : Method} {c : Code} {cy : Nat → ClassId} {D : va_G} {B : Nat} {ek : EK} {Q : State → Prop} (C : Cx p s m args c 9 cy D B ek "HostelBedsLaw" cL_law) (hlf : l.stackTraces = false) (h9 : ¬ cy 9 = 0) (hR9 : R = room_1) {b L : Nat} {xs : Nat → Int32} (hX : va_X b L xs s s.heap) (hbl : b < s.heap.size) (hbA : ¬ aB B b) (nc ns : Nat) (hnc : nc + 8 ≤ R.cells) (hns : ns + 48 ≤ R.slots) (i : Int32) (σ μ ω : Mem) (r9 : (Mem × Mem × Mem) ⊕ Unit) (h : fL_law27 xs L i σ μ ω = some r9) (hcont : ∀ q9, r9 = .inl q9 → ∀ nc2 ns2 : Nat, nc2 ≤ nc + 8 → ns2 ≤ ns + 48 → X p l e R s m args below meth c 9 cy D B nc2 ns2 Q 2861 [(0, .ref b), (1, .ref (B + oHB)), (2, .ref (B + oMd)), (3, .ref (B + oLOut)), (4, .ref (B + oLOutD)), (5, .int i)] [] q9.1 q9.2.1 q9.2.2) (hne : ∀ u, r9 ≠ .inr u) : X p l e R s m args below meth c 9 cy D B nc ns Q 1661 [(0, .ref b), (1, .ref (B + oHB)), (2, .ref (B + oMd)), (3, .ref (B + oLOut)), (4, .ref (B + oLOutD)), (5, .int i)] [] σ μ ω := by
  unfold fL_law27 at h
  refine x_aload_n C dL_law_1661 rfl 1 rfl ?_
  refine x_aload_n C dL_law_1662 rfl 0 rfl ?_
  refine x_iload C dL_law_1663 5 rfl ?_
  refine x_iconst C (v := 1) dL_law_1665 (by decide) ?_
  refine x_iadd C dL_law_1666 ?_
  obtain ⟨hg1, h⟩ := gd_some h
  refine x_sld C hX hbl hbA hg1 dL_law_1667 ?_
  refine x_aload_n C dL_law_1668 rfl 0 rfl ?_
  refine x_iload C dL_law_1669 5 rfl ?_
  refine x_iconst C (v := 2) dL_law_1671 (by decide) ?_
  refine x_iadd C dL_law_1672 ?_
  obtain ⟨hg2, h⟩ := gd_some h
  refine x_sld C hX hbl hbA hg2 dL_law_1673 ?_
  refine x_aload C dL_law_1674 4 rfl ?_
  obtain ⟨q1, hk3, h⟩ := Option.bind_eq_some_iff.mp h
  refine x_callSW C (As := [.ref (B + oHB), .int (xs (i + (1 : Int32)).toNatClampNeg), .int (xs (i + (2 : Int32)).toNatClampNeg), .ref (B + oLOutD)]) (rest := []) (cells2 := (nc + 1)) (slots2 := (ns + 6)) (lw_g_mk tw_957 rfl) (okL_chance_LOutD l hlf cy D B ek h9 (xs (i + (1 : Int32)).toNatClampNeg) (xs (i + (2 : Int32)).toNatClampNeg) σ μ ω _ hk3) rfl rfl (by rw [hR9]; decide) (lw_g_mk tw_958 rfl) (lw_g_mk tw_0 rfl) (by decide) rfl (lw_g_mk tw_956 rfl) rfl (Nat.le_of_ble_eq_true rfl) dL_law_1676 ⟨by omega, by omega⟩ rfl rfl ?_
  refine x_istore C [(6, .int q1.1), (0, .ref b), (1, .ref (B + oHB)), (2, .ref (B + oMd)), (3, .ref (B + oLOut)), (4, .ref (B + oLOutD)), (5, .int i)] dL_law_1679 (by decide) rfl ?_
  refine x_aload_n C dL_law_1681 rfl 3 rfl ?_
  refine x_aload_n C dL_law_1682 rfl 1 rfl ?_
  refine x_iload C dL_law_1683 6 rfl ?_
  refine x_iconst C (v := 1) dL_law_1685 (by decide) ?_
  refine x_iadd C dL_law_1686 ?_
  refine x_sld C hX hbl hbA hg1 dL_law_1687 ?_
  refine x_aload_n C dL_law_1688 rfl 1 rfl ?_
  refine x_iload C dL_law_1689 6 rfl ?_
  refine x_iconst C (v := 2) dL_law_1691 (by decide) ?_
  refine x_iadd C dL_law_1692 ?_
  refine x_sld C hX hbl hbA hg2 dL_law_1693 ?_
  obtain ⟨q2, hk4, h⟩ := Option.bind_eq_some_iff.mp h
  refine x_callV C (As := [.int (xs (i + (1 : Int32)).toNatClampNeg), .int (xs (i + (2 : Int32)).toNatClampNeg)]) (rest := []) (lw_g_mk tw_1611 rfl) (lw_g_mk tw_1612 rfl) (c_Md) (C1 := "HostelBedsModel") (T := TX6) (N := 27) (ci := 6) rfl (okX6_chance l cy D B ek (xs (i + (1 : Int32)).toNatClampNeg) (xs (i + (2 : Int32)).toNatClampNeg) q1.2.1 μ q1.2.2 _ hk4) rfl rfl (by rw [hR9]; decide) (lw_g_mk tw_1613 rfl) (lw_g_mk tw_7 rfl) (by decide) rfl (lw_g_mk tw_1610 rfl) rfl (Nat.le_of_ble_eq_true rfl) dL_law_1694 ⟨by omega, by omega⟩ ?_
  refine x_dstore C [(7, .double q2.1), (6, .int q1.1), (0, .ref b), (1, .ref (B + oHB)), (2, .ref (B + oMd)), (3, .ref (B + oLOut)), (4, .ref (B + oLOutD)), (5, .int i)] dL_law_1697 (by decide) rfl ?_
  refine x_aload_n C dL_law_1699 rfl 4 rfl ?_
  obtain ⟨q3, hk5, h⟩ := Option.bind_eq_some_iff.mp h
  refine x_callV C (As := []) (rest := []) (lw_g_mk tw_1215 rfl) (lw_g_mk tw_1216 rfl) (c_Md) (C1 := "HostelBedsModel") (T := TX6) (N := 27) (ci := 6) rfl (okX6_thrown l cy D B ek q1.2.1 q2.2 q1.2.2 _ hk5) rfl rfl (by rw [hR9]; decide) (lw_g_mk tw_1217 rfl) (lw_g_mk tw_7 rfl) (by decide) rfl (lw_g_mk tw_1214 rfl) rfl (Nat.le_of_ble_eq_true rfl) dL_law_1700 ⟨by omega, by omega⟩ ?_
  refine x_iload C dL_law_1703 1 rfl ?_
  refine x_icmp_eq C (tgt := 1710) dL_law_1705 (by decide) (fun hc6 => ?_) (fun hc6 => ?_)
  · rw [if_pos hc6] at h
    refine x_iload C dL_law_1710 1 rfl ?_
    have hJ7 : ∀ (r9 : (Mem × Mem × Mem) ⊕ Unit), jL_law27_1747 q1 q2 = some r9 → (∀ q9, r9 = .inl q9 → ∀ nc2 ns2 : Nat, nc2 ≤ nc + 8 → ns2 ≤ ns + 48 → X p l e R s m args below meth c 9 cy D B nc2 ns2 Q 2861 [(0, .ref b), (1, .ref (B + oHB)), (2, .ref (B + oMd)), (3, .ref (B + oLOut)), (4, .ref (B + oLOutD)), (5, .int i)] [] q9.1 q9.2.1 q9.2.2) → (∀ u, r9 ≠ .inr u) → X p l e R s m args below meth c 9 cy D B (nc + 1) (ns + 6) Q 1747 [(0, .ref b), (1, .ref (B + oHB)), (2, .ref (B + oMd)), (3, .ref (B + oLOut)), (4, .ref (B + oLOutD)), (5, .int i)] [] q1.2.1 q2.2 q1.2.2 := by
      intro r9 h hcont hne
      unfold jL_law27_1747 at h
      refine x_goto C (tgt := 2861) dL_law_1747 (by decide) ?_
      cases h
      exact hcont _ rfl _ _ (by omega) (by omega)
    refine x_if_ne C (tgt := 1747) dL_law_1712 (by decide) (fun hc8 => ?_) (fun hc8 => ?_)
    · rw [if_pos hc8] at h
      refine x_sub [2, 3, 4, 5, 6, 7] rfl ?_
      exact hJ7 _ h hcont hne
    · rw [if_neg hc8] at h
      refine x_aload C dL_law_1715 6 rfl ?_
      refine x_iconst C (v := 0) dL_law_1717 (by decide) ?_
      refine x_dald C _ (c_LOutD h9) (by decide : inb (0 : Int32) 1) dL_law_1718 ?_
      refine x_dload C dL_law_1719 0 rfl ?_
      refine x_dcmp C dL_law_1721 ?_
      refine x_if_eq C (tgt := 1747) dL_law_1722 (by decide) (fun hc9 => ?_) (fun hc9 => ?_)
      · rw [if_pos hc9] at h
        refine x_sub [2, 3, 4, 5, 6, 7] rfl ?_
        exact hJ7 _ h hcont hne
      · rw [if_neg hc9] at h
        refine x_aload C dL_law_1725 6 rfl ?_
        refine x_iconst C (v := 0) dL_law_1727 (by decide) ?_
        refine x_dald C _ (c_LOutD h9) (by decide : inb (0 : Int32) 1) dL_law_1728 ?_
        refine x_aload C dL_law_1729 6 rfl ?_
        refine x_iconst C (v := 0) dL_law_1731 (by decide) ?_
        refine x_dald C _ (c_LOutD h9) (by decide : inb (0 : Int32) 1) dL_law_1732 ?_
        refine x_dcmp C dL_law_1733 ?_
        refine x_if_eq C (tgt := 1745) dL_law_1734 (by decide) (fun hc10 => ?_) (fun hc10 => ?_)
        · rw [if_pos hc10] at h
          refine x_iconst C (v := 0) dL_law_1745 (by decide) ?_
          cases h
          exact absurd rfl (hne ())
        · rw [if_neg hc10] at h
          refine x_dload C dL_law_1737 0 rfl ?_
          refine x_dload C dL_law_1739 0 rfl ?_
          refine x_dcmp C dL_law_1741 ?_
          refine x_if_ne C (tgt := 1747) dL_law_1742 (by decide) (fun hc11 => ?_) (fun hc11 => ?_)
          · rw [if_pos hc11] at h
            refine x_sub [2, 3, 4, 5, 6, 7] rfl ?_
            exact hJ7 _ h hcont hne
          · rw [if_neg hc11] at h
            refine x_iconst C (v := 0) dL_law_1745 (by decide) ?_
            cases h
            exact absurd rfl (hne ())
  · rw [if_neg hc6] at h
    refine x_iconst C (v := 0) dL_law_1708 (by decide) ?_
    cases h
    exact absurd rfl (hne ())
def jL_law28_1824 (q1 : Int32 × Mem × Mem) (q2 : UInt64 × Mem) : Option ((Mem × Mem × Mem) ⊕ Unit) := (some (.inl (q1.2.1, q2.2, q1.2.2)))
def fL_law28 (xs : Nat → Int32) (L : Nat) (i : Int32) (σ : Mem) (μ : Mem) (ω : Mem) : Option ((Mem × Mem × Mem) ⊕ Unit) := (gd (inb (i + (1 : Int32)) L) ((fL_risk_LOutD (xs (i + (1 : Int32)).toNatClampNeg) σ ω).bind fun q1 => ((fX6_risk (xs (i + (1 : Int32)).toNatClampNeg) μ).bind fun q2 => ((fX6_thrown q2.2).bind fun q3 => (if q3 = q1.1 then (if ¬ q1.1 = 0 then (jL_law28_1824 q1 q2) else (if (Op.cmpValue (FP.dcmp (rD q1.2.2 2 0 (0 : Int32).toNatClampNeg) q2.1) .l) = 0 then (jL_law28_1824 q1 q2) else (if (Op.cmpValue (FP.dcmp (rD q1.2.2 2 0 (0 : Int32).toNatClampNeg) (rD q1.2.2 2 0 (0 : Int32).toNatClampNeg)) .l) = 0 then (some (.inr ())) else (if ¬ (Op.cmpValue (FP.dcmp q2.1 q2.1) .l) = 0 then (jL_law28_1824 q1 q2) else (some (.inr ())))))) else (some (.inr ())))))))
set_option maxHeartbeats 4000000 in
set_option maxRecDepth 100000 in
theorem okL_law28 {p : Program} {l : Launch} {e : Env} {R : Room} {s : State} {m : MethodId} {args : Array Value} {below : List Frame} {meth : Method} {c : Code} {cy : Nat → ClassId} {D : va_G} {B : Nat} {ek : EK} {Q : State → Prop} (C : Cx p s m args c 9 cy D B ek "HostelBedsLaw" cL_law) (hlf : l.stackTraces = false) (h9 : ¬ cy 9 = 0) (hR9 : R = room_1) {b L : Nat} {xs : Nat → Int32} (hX : va_X b L xs s s.heap) (hbl : b < s.heap.size) (hbA : ¬ aB B b) (nc ns : Nat) (hnc : nc + 8 ≤ R.cells) (hns : ns + 48 ≤ R.slots) (i : Int32) (σ μ ω : Mem) (r9 : (Mem × Mem × Mem) ⊕ Unit) (h : fL_law28 xs L i σ μ ω = some r9) (hcont : ∀ q9, r9 = .inl q9 → ∀ nc2 ns2 : Nat, nc2 ≤ nc + 8 → ns2 ≤ ns + 48 → X p l e R s m args below meth c 9 cy D B nc2 ns2 Q 2861 [(0, .ref b), (1, .ref (B + oHB)), (2, .ref (B + oMd)), (3, .ref (B + oLOut)), (4, .ref (B + oLOutD)), (5, .int i)] [] q9.1 q9.2.1 q9.2.2) (hne : ∀ u, r9 ≠ .inr u) : X p l e R s m args below meth c 9 cy D B nc ns Q 1750 [(0, .ref b), (1, .ref (B + oHB)), (2, .ref (B + oMd)), (3, .ref (B + oLOut)), (4, .ref (B + oLOutD)), (5, .int i)] [] σ μ ω := by
  unfold fL_law28 at h
  refine x_aload_n C dL_law_1750 rfl 1 rfl ?_
  refine x_aload_n C dL_law_1751 rfl 0 rfl ?_
  refine x_iload C dL_law_1752 5 rfl ?_
  refine x_iconst C (v := 1) dL_law_1754 (by decide) ?_
  refine x_iadd C dL_law_1755 ?_
  obtain ⟨hg1, h⟩ := gd_some h
  refine x_sld C hX hbl hbA hg1 dL_law_1756 ?_
  refine x_aload C dL_law_1757 4 rfl ?_
  obtain ⟨q1, hk2, h⟩ := Option.bind_eq_some_iff.mp h
  refine x_callSW C (As := [.ref (B + oHB), .int (xs (i + (1 : Int32)).toNatClampNeg), .ref (B + oLOutD)]) (rest := []) (cells2 := (nc + 1)) (slots2 := (ns + 6)) (lw_g_mk tw_973 rfl) (okL_risk_LOutD l hlf cy D B ek h9 (xs (i + (1 : Int32)).toNatClampNeg) σ μ ω _ hk2) rfl rfl (by rw [hR9]; decide) (lw_g_mk tw_974 rfl) (lw_g_mk tw_0 rfl) (by decide) rfl (lw_g_mk tw_972 rfl) rfl (Nat.le_of_ble_eq_true rfl) dL_law_1759 ⟨by omega, by omega⟩ rfl rfl ?_
  refine x_istore C [(6, .int q1.1), (0, .ref b), (1, .ref (B + oHB)), (2, .ref (B + oMd)), (3, .ref (B + oLOut)), (4, .ref (B + oLOutD)), (5, .int i)] dL_law_1762 (by decide) rfl ?_
  refine x_aload_n C dL_law_1764 rfl 3 rfl ?_
  refine x_aload_n C dL_law_1765 rfl 1 rfl ?_
  refine x_iload C dL_law_1766 6 rfl ?_
  refine x_iconst C (v := 1) dL_law_1768 (by decide) ?_
  refine x_iadd C dL_law_1769 ?_
  refine x_sld C hX hbl hbA hg1 dL_law_1770 ?_
  obtain ⟨q2, hk3, h⟩ := Option.bind_eq_some_iff.mp h
  refine x_callV C (As := [.int (xs (i + (1 : Int32)).toNatClampNeg)]) (rest := []) (lw_g_mk tw_1620 rfl) (lw_g_mk tw_1621 rfl) (c_Md) (C1 := "HostelBedsModel") (T := TX6) (N := 27) (ci := 6) rfl (okX6_risk l cy D B ek (xs (i + (1 : Int32)).toNatClampNeg) q1.2.1 μ q1.2.2 _ hk3) rfl rfl (by rw [hR9]; decide) (lw_g_mk tw_1622 rfl) (lw_g_mk tw_7 rfl) (by decide) rfl (lw_g_mk tw_1619 rfl) rfl (Nat.le_of_ble_eq_true rfl) dL_law_1771 ⟨by omega, by omega⟩ ?_
  refine x_dstore C [(7, .double q2.1), (6, .int q1.1), (0, .ref b), (1, .ref (B + oHB)), (2, .ref (B + oMd)), (3, .ref (B + oLOut)), (4, .ref (B + oLOutD)), (5, .int i)] dL_law_1774 (by decide) rfl ?_
  refine x_aload_n C dL_law_1776 rfl 4 rfl ?_
  obtain ⟨q3, hk4, h⟩ := Option.bind_eq_some_iff.mp h
  refine x_callV C (As := []) (rest := []) (lw_g_mk tw_1215 rfl) (lw_g_mk tw_1216 rfl) (c_Md) (C1 := "HostelBedsModel") (T := TX6) (N := 27) (ci := 6) rfl (okX6_thrown l cy D B ek q1.2.1 q2.2 q1.2.2 _ hk4) rfl rfl (by rw [hR9]; decide) (lw_g_mk tw_1217 rfl) (lw_g_mk tw_7 rfl) (by decide) rfl (lw_g_mk tw_1214 rfl) rfl (Nat.le_of_ble_eq_true rfl) dL_law_1777 ⟨by omega, by omega⟩ ?_
  refine x_iload C dL_law_1780 1 rfl ?_
  refine x_icmp_eq C (tgt := 1787) dL_law_1782 (by decide) (fun hc5 => ?_) (fun hc5 => ?_)
  · rw [if_pos hc5] at h
    refine x_iload C dL_law_1787 1 rfl ?_
    have hJ6 : ∀ (r9 : (Mem × Mem × Mem) ⊕ Unit), jL_law28_1824 q1 q2 = some r9 → (∀ q9, r9 = .inl q9 → ∀ nc2 ns2 : Nat, nc2 ≤ nc + 8 → ns2 ≤ ns + 48 → X p l e R s m args below meth c 9 cy D B nc2 ns2 Q 2861 [(0, .ref b), (1, .ref (B + oHB)), (2, .ref (B + oMd)), (3, .ref (B + oLOut)), (4, .ref (B + oLOutD)), (5, .int i)] [] q9.1 q9.2.1 q9.2.2) → (∀ u, r9 ≠ .inr u) → X p l e R s m args below meth c 9 cy D B (nc + 1) (ns + 6) Q 1824 [(0, .ref b), (1, .ref (B + oHB)), (2, .ref (B + oMd)), (3, .ref (B + oLOut)), (4, .ref (B + oLOutD)), (5, .int i)] [] q1.2.1 q2.2 q1.2.2 := by
      intro r9 h hcont hne
      unfold jL_law28_1824 at h
      refine x_goto C (tgt := 2861) dL_law_1824 (by decide) ?_
      cases h
      exact hcont _ rfl _ _ (by omega) (by omega)
    refine x_if_ne C (tgt := 1824) dL_law_1789 (by decide) (fun hc7 => ?_) (fun hc7 => ?_)
    · rw [if_pos hc7] at h
      refine x_sub [2, 3, 4, 5, 6, 7] rfl ?_
      exact hJ6 _ h hcont hne
    · rw [if_neg hc7] at h
      refine x_aload C dL_law_1792 6 rfl ?_
      refine x_iconst C (v := 0) dL_law_1794 (by decide) ?_
      refine x_dald C _ (c_LOutD h9) (by decide : inb (0 : Int32) 1) dL_law_1795 ?_
      refine x_dload C dL_law_1796 0 rfl ?_
      refine x_dcmp C dL_law_1798 ?_
      refine x_if_eq C (tgt := 1824) dL_law_1799 (by decide) (fun hc8 => ?_) (fun hc8 => ?_)
      · rw [if_pos hc8] at h
        refine x_sub [2, 3, 4, 5, 6, 7] rfl ?_
        exact hJ6 _ h hcont hne
      · rw [if_neg hc8] at h
        refine x_aload C dL_law_1802 6 rfl ?_
        refine x_iconst C (v := 0) dL_law_1804 (by decide) ?_
        refine x_dald C _ (c_LOutD h9) (by decide : inb (0 : Int32) 1) dL_law_1805 ?_
        refine x_aload C dL_law_1806 6 rfl ?_
        refine x_iconst C (v := 0) dL_law_1808 (by decide) ?_
        refine x_dald C _ (c_LOutD h9) (by decide : inb (0 : Int32) 1) dL_law_1809 ?_
        refine x_dcmp C dL_law_1810 ?_
        refine x_if_eq C (tgt := 1822) dL_law_1811 (by decide) (fun hc9 => ?_) (fun hc9 => ?_)
        · rw [if_pos hc9] at h
          refine x_iconst C (v := 0) dL_law_1822 (by decide) ?_
          cases h
          exact absurd rfl (hne ())
        · rw [if_neg hc9] at h
          refine x_dload C dL_law_1814 0 rfl ?_
          refine x_dload C dL_law_1816 0 rfl ?_
          refine x_dcmp C dL_law_1818 ?_
          refine x_if_ne C (tgt := 1824) dL_law_1819 (by decide) (fun hc10 => ?_) (fun hc10 => ?_)
          · rw [if_pos hc10] at h
            refine x_sub [2, 3, 4, 5, 6, 7] rfl ?_
            exact hJ6 _ h hcont hne
          · rw [if_neg hc10] at h
            refine x_iconst C (v := 0) dL_law_1822 (by decide) ?_
            cases h
            exact absurd rfl (hne ())
  · rw [if_neg hc5] at h
    refine x_iconst C (v := 0) dL_law_1785 (by decide) ?_
    cases h
    exact absurd rfl (hne ())
def jL_law29_1901 (q1 : Int32 × Mem × Mem) (q2 : UInt64 × Mem) : Option ((Mem × Mem × Mem) ⊕ Unit) := (some (.inl (q1.2.1, q2.2, q1.2.2)))
def fL_law29 (xs : Nat → Int32) (L : Nat) (i : Int32) (σ : Mem) (μ : Mem) (ω : Mem) : Option ((Mem × Mem × Mem) ⊕ Unit) := (gd (inb (i + (1 : Int32)) L) ((fL_expectedWalks_LOutD (xs (i + (1 : Int32)).toNatClampNeg) σ ω).bind fun q1 => ((fX6_expectedWalks (xs (i + (1 : Int32)).toNatClampNeg) μ).bind fun q2 => ((fX6_thrown q2.2).bind fun q3 => (if q3 = q1.1 then (if ¬ q1.1 = 0 then (jL_law29_1901 q1 q2) else (if (Op.cmpValue (FP.dcmp (rD q1.2.2 2 0 (0 : Int32).toNatClampNeg) q2.1) .l) = 0 then (jL_law29_1901 q1 q2) else (if (Op.cmpValue (FP.dcmp (rD q1.2.2 2 0 (0 : Int32).toNatClampNeg) (rD q1.2.2 2 0 (0 : Int32).toNatClampNeg)) .l) = 0 then (some (.inr ())) else (if ¬ (Op.cmpValue (FP.dcmp q2.1 q2.1) .l) = 0 then (jL_law29_1901 q1 q2) else (some (.inr ())))))) else (some (.inr ())))))))
set_option maxHeartbeats 4000000 in
set_option maxRecDepth 100000 in
theorem okL_law29 {p : Program} {l : Launch} {e : Env} {R : Room} {s : State} {m : MethodId} {args : Array Value} {below : List Frame} {meth : Method} {c : Code} {cy : Nat → ClassId} {D : va_G} {B : Nat} {ek : EK} {Q : State → Prop} (C : Cx p s m args c 9 cy D B ek "HostelBedsLaw" cL_law) (hlf : l.stackTraces = false) (h9 : ¬ cy 9 = 0) (hR9 : R = room_1) {b L : Nat} {xs : Nat → Int32} (hX : va_X b L xs s s.heap) (hbl : b < s.heap.size) (hbA : ¬ aB B b) (nc ns : Nat) (hnc : nc + 8 ≤ R.cells) (hns : ns + 48 ≤ R.slots) (i : Int32) (σ μ ω : Mem) (r9 : (Mem × Mem × Mem) ⊕ Unit) (h : fL_law29 xs L i σ μ ω = some r9) (hcont : ∀ q9, r9 = .inl q9 → ∀ nc2 ns2 : Nat, nc2 ≤ nc + 8 → ns2 ≤ ns + 48 → X p l e R s m args below meth c 9 cy D B nc2 ns2 Q 2861 [(0, .ref b), (1, .ref (B + oHB)), (2, .ref (B + oMd)), (3, .ref (B + oLOut)), (4, .ref (B + oLOutD)), (5, .int i)] [] q9.1 q9.2.1 q9.2.2) (hne : ∀ u, r9 ≠ .inr u) : X p l e R s m args below meth c 9 cy D B nc ns Q 1827 [(0, .ref b), (1, .ref (B + oHB)), (2, .ref (B + oMd)), (3, .ref (B + oLOut)), (4, .ref (B + oLOutD)), (5, .int i)] [] σ μ ω := by
  unfold fL_law29 at h
  refine x_aload_n C dL_law_1827 rfl 1 rfl ?_
  refine x_aload_n C dL_law_1828 rfl 0 rfl ?_
  refine x_iload C dL_law_1829 5 rfl ?_
  refine x_iconst C (v := 1) dL_law_1831 (by decide) ?_
  refine x_iadd C dL_law_1832 ?_
  obtain ⟨hg1, h⟩ := gd_some h
  refine x_sld C hX hbl hbA hg1 dL_law_1833 ?_
  refine x_aload C dL_law_1834 4 rfl ?_
  obtain ⟨q1, hk2, h⟩ := Option.bind_eq_some_iff.mp h
  refine x_callSW C (As := [.ref (B + oHB), .int (xs (i + (1 : Int32)).toNatClampNeg), .ref (B + oLOutD)]) (rest := []) (cells2 := (nc + 1)) (slots2 := (ns + 6)) (lw_g_mk tw_980 rfl) (okL_expectedWalks_LOutD l hlf cy D B ek h9 (xs (i + (1 : Int32)).toNatClampNeg) σ μ ω _ hk2) rfl rfl (by rw [hR9]; decide) (lw_g_mk tw_981 rfl) (lw_g_mk tw_0 rfl) (by decide) rfl (lw_g_mk tw_979 rfl) rfl (Nat.le_of_ble_eq_true rfl) dL_law_1836 ⟨by omega, by omega⟩ rfl rfl ?_
  refine x_istore C [(6, .int q1.1), (0, .ref b), (1, .ref (B + oHB)), (2, .ref (B + oMd)), (3, .ref (B + oLOut)), (4, .ref (B + oLOutD)), (5, .int i)] dL_law_1839 (by decide) rfl ?_
  refine x_aload_n C dL_law_1841 rfl 3 rfl ?_
  refine x_aload_n C dL_law_1842 rfl 1 rfl ?_
  refine x_iload C dL_law_1843 6 rfl ?_
  refine x_iconst C (v := 1) dL_law_1845 (by decide) ?_
  refine x_iadd C dL_law_1846 ?_
  refine x_sld C hX hbl hbA hg1 dL_law_1847 ?_
  obtain ⟨q2, hk3, h⟩ := Option.bind_eq_some_iff.mp h
  refine x_callV C (As := [.int (xs (i + (1 : Int32)).toNatClampNeg)]) (rest := []) (lw_g_mk tw_1624 rfl) (lw_g_mk tw_1625 rfl) (c_Md) (C1 := "HostelBedsModel") (T := TX6) (N := 27) (ci := 6) rfl (okX6_expectedWalks l cy D B ek (xs (i + (1 : Int32)).toNatClampNeg) q1.2.1 μ q1.2.2 _ hk3) rfl rfl (by rw [hR9]; decide) (lw_g_mk tw_1626 rfl) (lw_g_mk tw_7 rfl) (by decide) rfl (lw_g_mk tw_1623 rfl) rfl (Nat.le_of_ble_eq_true rfl) dL_law_1848 ⟨by omega, by omega⟩ ?_
  refine x_dstore C [(7, .double q2.1), (6, .int q1.1), (0, .ref b), (1, .ref (B + oHB)), (2, .ref (B + oMd)), (3, .ref (B + oLOut)), (4, .ref (B + oLOutD)), (5, .int i)] dL_law_1851 (by decide) rfl ?_
  refine x_aload_n C dL_law_1853 rfl 4 rfl ?_
  obtain ⟨q3, hk4, h⟩ := Option.bind_eq_some_iff.mp h
  refine x_callV C (As := []) (rest := []) (lw_g_mk tw_1215 rfl) (lw_g_mk tw_1216 rfl) (c_Md) (C1 := "HostelBedsModel") (T := TX6) (N := 27) (ci := 6) rfl (okX6_thrown l cy D B ek q1.2.1 q2.2 q1.2.2 _ hk4) rfl rfl (by rw [hR9]; decide) (lw_g_mk tw_1217 rfl) (lw_g_mk tw_7 rfl) (by decide) rfl (lw_g_mk tw_1214 rfl) rfl (Nat.le_of_ble_eq_true rfl) dL_law_1854 ⟨by omega, by omega⟩ ?_
  refine x_iload C dL_law_1857 1 rfl ?_
  refine x_icmp_eq C (tgt := 1864) dL_law_1859 (by decide) (fun hc5 => ?_) (fun hc5 => ?_)
  · rw [if_pos hc5] at h
    refine x_iload C dL_law_1864 1 rfl ?_
    have hJ6 : ∀ (r9 : (Mem × Mem × Mem) ⊕ Unit), jL_law29_1901 q1 q2 = some r9 → (∀ q9, r9 = .inl q9 → ∀ nc2 ns2 : Nat, nc2 ≤ nc + 8 → ns2 ≤ ns + 48 → X p l e R s m args below meth c 9 cy D B nc2 ns2 Q 2861 [(0, .ref b), (1, .ref (B + oHB)), (2, .ref (B + oMd)), (3, .ref (B + oLOut)), (4, .ref (B + oLOutD)), (5, .int i)] [] q9.1 q9.2.1 q9.2.2) → (∀ u, r9 ≠ .inr u) → X p l e R s m args below meth c 9 cy D B (nc + 1) (ns + 6) Q 1901 [(0, .ref b), (1, .ref (B + oHB)), (2, .ref (B + oMd)), (3, .ref (B + oLOut)), (4, .ref (B + oLOutD)), (5, .int i)] [] q1.2.1 q2.2 q1.2.2 := by
      intro r9 h hcont hne
      unfold jL_law29_1901 at h
      refine x_goto C (tgt := 2861) dL_law_1901 (by decide) ?_
      cases h
      exact hcont _ rfl _ _ (by omega) (by omega)
    refine x_if_ne C (tgt := 1901) dL_law_1866 (by decide) (fun hc7 => ?_) (fun hc7 => ?_)
    · rw [if_pos hc7] at h
      refine x_sub [2, 3, 4, 5, 6, 7] rfl ?_
      exact hJ6 _ h hcont hne
    · rw [if_neg hc7] at h
      refine x_aload C dL_law_1869 6 rfl ?_
      refine x_iconst C (v := 0) dL_law_1871 (by decide) ?_
      refine x_dald C _ (c_LOutD h9) (by decide : inb (0 : Int32) 1) dL_law_1872 ?_
      refine x_dload C dL_law_1873 0 rfl ?_
      refine x_dcmp C dL_law_1875 ?_
      refine x_if_eq C (tgt := 1901) dL_law_1876 (by decide) (fun hc8 => ?_) (fun hc8 => ?_)
      · rw [if_pos hc8] at h
        refine x_sub [2, 3, 4, 5, 6, 7] rfl ?_
        exact hJ6 _ h hcont hne
      · rw [if_neg hc8] at h
        refine x_aload C dL_law_1879 6 rfl ?_
        refine x_iconst C (v := 0) dL_law_1881 (by decide) ?_
        refine x_dald C _ (c_LOutD h9) (by decide : inb (0 : Int32) 1) dL_law_1882 ?_
        refine x_aload C dL_law_1883 6 rfl ?_
        refine x_iconst C (v := 0) dL_law_1885 (by decide) ?_
        refine x_dald C _ (c_LOutD h9) (by decide : inb (0 : Int32) 1) dL_law_1886 ?_
        refine x_dcmp C dL_law_1887 ?_
        refine x_if_eq C (tgt := 1899) dL_law_1888 (by decide) (fun hc9 => ?_) (fun hc9 => ?_)
        · rw [if_pos hc9] at h
          refine x_iconst C (v := 0) dL_law_1899 (by decide) ?_
          cases h
          exact absurd rfl (hne ())
        · rw [if_neg hc9] at h
          refine x_dload C dL_law_1891 0 rfl ?_
          refine x_dload C dL_law_1893 0 rfl ?_
          refine x_dcmp C dL_law_1895 ?_
          refine x_if_ne C (tgt := 1901) dL_law_1896 (by decide) (fun hc10 => ?_) (fun hc10 => ?_)
          · rw [if_pos hc10] at h
            refine x_sub [2, 3, 4, 5, 6, 7] rfl ?_
            exact hJ6 _ h hcont hne
          · rw [if_neg hc10] at h
            refine x_iconst C (v := 0) dL_law_1899 (by decide) ?_
            cases h
            exact absurd rfl (hne ())
  · rw [if_neg hc5] at h
    refine x_iconst C (v := 0) dL_law_1862 (by decide) ?_
    cases h
    exact absurd rfl (hne ())
def jL_law30_2005 (q1 : Int32 × Mem × Mem) (q2 : Int32 × Mem) : Option ((Mem × Mem × Mem) ⊕ Unit) := (some (.inl (q1.2.1, q2.2, q1.2.2)))
def fL_law30 (xs : Nat → Int32) (L : Nat) (i : Int32) (σ : Mem) (μ : Mem) (ω : Mem) : Option ((Mem × Mem × Mem) ⊕ Unit) := (gd (inb (i + (1 : Int32)) L) (gd (inb (i + (2 : Int32)) L) (gd (inb (i + (3 : Int32)) L) (gd (inb (i + (4 : Int32)) L) (gd (inb (i + (5 : Int32)) L) ((fL_wouldBe_LOut (xs (i + (1 : Int32)).toNatClampNeg) (xs (i + (2 : Int32)).toNatClampNeg) (xs (i + (3 : Int32)).toNatClampNeg) (xs (i + (4 : Int32)).toNatClampNeg) (xs (i + (5 : Int32)).toNatClampNeg) σ ω).bind fun q1 => ((fX6_wouldBe (xs (i + (1 : Int32)).toNatClampNeg) (xs (i + (2 : Int32)).toNatClampNeg) (xs (i + (3 : Int32)).toNatClampNeg) (xs (i + (4 : Int32)).toNatClampNeg) (xs (i + (5 : Int32)).toNatClampNeg) μ).bind fun q2 => ((fX6_thrown q2.2).bind fun q3 => (if q3 = q1.1 then (if ¬ q1.1 = 0 then (jL_law30_2005 q1 q2) else (if (lg_cmp (rJ q1.2.2 20 0 (0 : Int32).toNatClampNeg) q2.1.toInt64) = 0 then (jL_law30_2005 q1 q2) else (some (.inr ())))) else (some (.inr ())))))))))))
set_option maxHeartbeats 4000000 in
set_option maxRecDepth 100000 in
theorem okL_law30 {p : Program} {l : Launch} {e : Env} {R : Room} {s : State} {m : MethodId} {args : Array Value} {below : List Frame} {meth : Method} {c : Code} {cy : Nat → ClassId} {D : va_G} {B : Nat} {ek : EK} {Q : State → Prop} (C : Cx p s m args c 9 cy D B ek "HostelBedsLaw" cL_law) (hlf : l.stackTraces = false) (h9 : ¬ cy 9 = 0) (hR9 : R = room_1) {b L : Nat} {xs : Nat → Int32} (hX : va_X b L xs s s.heap) (hbl : b < s.heap.size) (hbA : ¬ aB B b) (nc ns : Nat) (hnc : nc + 8 ≤ R.cells) (hns : ns + 48 ≤ R.slots) (i : Int32) (σ μ ω : Mem) (r9 : (Mem × Mem × Mem) ⊕ Unit) (h : fL_law30 xs L i σ μ ω = some r9) (hcont : ∀ q9, r9 = .inl q9 → ∀ nc2 ns2 : Nat, nc2 ≤ nc + 8 → ns2 ≤ ns + 48 → X p l e R s m args below meth c 9 cy D B nc2 ns2 Q 2861 [(0, .ref b), (1, .ref (B + oHB)), (2, .ref (B + oMd)), (3, .ref (B + oLOut)), (4, .ref (B + oLOutD)), (5, .int i)] [] q9.1 q9.2.1 q9.2.2) (hne : ∀ u, r9 ≠ .inr u) : X p l e R s m args below meth c 9 cy D B nc ns Q 1904 [(0, .ref b), (1, .ref (B + oHB)), (2, .ref (B + oMd)), (3, .ref (B + oLOut)), (4, .ref (B + oLOutD)), (5, .int i)] [] σ μ ω := by
  unfold fL_law30 at h
  refine x_aload_n C dL_law_1904 rfl 1 rfl ?_
  refine x_aload_n C dL_law_1905 rfl 0 rfl ?_
  refine x_iload C dL_law_1906 5 rfl ?_
  refine x_iconst C (v := 1) dL_law_1908 (by decide) ?_
  refine x_iadd C dL_law_1909 ?_
  obtain ⟨hg1, h⟩ := gd_some h
  refine x_sld C hX hbl hbA hg1 dL_law_1910 ?_
  refine x_aload_n C dL_law_1911 rfl 0 rfl ?_
  refine x_iload C dL_law_1912 5 rfl ?_
  refine x_iconst C (v := 2) dL_law_1914 (by decide) ?_
  refine x_iadd C dL_law_1915 ?_
  obtain ⟨hg2, h⟩ := gd_some h
  refine x_sld C hX hbl hbA hg2 dL_law_1916 ?_
  refine x_aload_n C dL_law_1917 rfl 0 rfl ?_
  refine x_iload C dL_law_1918 5 rfl ?_
  refine x_iconst C (v := 3) dL_law_1920 (by decide) ?_
  refine x_iadd C dL_law_1921 ?_
  obtain ⟨hg3, h⟩ := gd_some h
  refine x_sld C hX hbl hbA hg3 dL_law_1922 ?_
  refine x_aload_n C dL_law_1923 rfl 0 rfl ?_
  refine x_iload C dL_law_1924 5 rfl ?_
  refine x_iconst C (v := 4) dL_law_1926 (by decide) ?_
  refine x_iadd C dL_law_1927 ?_
  obtain ⟨hg4, h⟩ := gd_some h
  refine x_sld C hX hbl hbA hg4 dL_law_1928 ?_
  refine x_aload_n C dL_law_1929 rfl 0 rfl ?_
  refine x_iload C dL_law_1930 5 rfl ?_
  refine x_iconst C (v := 5) dL_law_1932 (by decide) ?_
  refine x_iadd C dL_law_1933 ?_
  obtain ⟨hg5, h⟩ := gd_some h
  refine x_sld C hX hbl hbA hg5 dL_law_1934 ?_
  refine x_aload_n C dL_law_1935 rfl 3 rfl ?_
  obtain ⟨q1, hk6, h⟩ := Option.bind_eq_some_iff.mp h
  refine x_callSW C (As := [.ref (B + oHB), .int (xs (i + (1 : Int32)).toNatClampNeg), .int (xs (i + (2 : Int32)).toNatClampNeg), .int (xs (i + (3 : Int32)).toNatClampNeg), .int (xs (i + (4 : Int32)).toNatClampNeg), .int (xs (i + (5 : Int32)).toNatClampNeg), .ref (B + oLOut)]) (rest := []) (cells2 := (nc + 5)) (slots2 := (ns + 30)) (lw_g_mk tw_987 rfl) (okL_wouldBe_LOut l hlf cy D B ek h9 (xs (i + (1 : Int32)).toNatClampNeg) (xs (i + (2 : Int32)).toNatClampNeg) (xs (i + (3 : Int32)).toNatClampNeg) (xs (i + (4 : Int32)).toNatClampNeg) (xs (i + (5 : Int32)).toNatClampNeg) σ μ ω _ hk6) rfl rfl (by rw [hR9]; decide) (lw_g_mk tw_988 rfl) (lw_g_mk tw_0 rfl) (by decide) rfl (lw_g_mk tw_986 rfl) rfl (Nat.le_of_ble_eq_true rfl) dL_law_1936 ⟨by omega, by omega⟩ rfl rfl ?_
  refine x_istore C [(6, .int q1.1), (0, .ref b), (1, .ref (B + oHB)), (2, .ref (B + oMd)), (3, .ref (B + oLOut)), (4, .ref (B + oLOutD)), (5, .int i)] dL_law_1939 (by decide) rfl ?_
  refine x_aload_n C dL_law_1941 rfl 3 rfl ?_
  refine x_aload_n C dL_law_1942 rfl 1 rfl ?_
  refine x_iload C dL_law_1943 6 rfl ?_
  refine x_iconst C (v := 1) dL_law_1945 (by decide) ?_
  refine x_iadd C dL_law_1946 ?_
  refine x_sld C hX hbl hbA hg1 dL_law_1947 ?_
  refine x_aload_n C dL_law_1948 rfl 1 rfl ?_
  refine x_iload C dL_law_1949 6 rfl ?_
  refine x_iconst C (v := 2) dL_law_1951 (by decide) ?_
  refine x_iadd C dL_law_1952 ?_
  refine x_sld C hX hbl hbA hg2 dL_law_1953 ?_
  refine x_aload_n C dL_law_1954 rfl 1 rfl ?_
  refine x_iload C dL_law_1955 6 rfl ?_
  refine x_iconst C (v := 3) dL_law_1957 (by decide) ?_
  refine x_iadd C dL_law_1958 ?_
  refine x_sld C hX hbl hbA hg3 dL_law_1959 ?_
  refine x_aload_n C dL_law_1960 rfl 1 rfl ?_
  refine x_iload C dL_law_1961 6 rfl ?_
  refine x_iconst C (v := 4) dL_law_1963 (by decide) ?_
  refine x_iadd C dL_law_1964 ?_
  refine x_sld C hX hbl hbA hg4 dL_law_1965 ?_
  refine x_aload_n C dL_law_1966 rfl 1 rfl ?_
  refine x_iload C dL_law_1967 6 rfl ?_
  refine x_iconst C (v := 5) dL_law_1969 (by decide) ?_
  refine x_iadd C dL_law_1970 ?_
  refine x_sld C hX hbl hbA hg5 dL_law_1971 ?_
  obtain ⟨q2, hk7, h⟩ := Option.bind_eq_some_iff.mp h
  refine x_callV C (As := [.int (xs (i + (1 : Int32)).toNatClampNeg), .int (xs (i + (2 : Int32)).toNatClampNeg), .int (xs (i + (3 : Int32)).toNatClampNeg), .int (xs (i + (4 : Int32)).toNatClampNeg), .int (xs (i + (5 : Int32)).toNatClampNeg)]) (rest := []) (lw_g_mk tw_1628 rfl) (lw_g_mk tw_1629 rfl) (c_Md) (C1 := "HostelBedsModel") (T := TX6) (N := 27) (ci := 6) rfl (okX6_wouldBe l cy D B ek (xs (i + (1 : Int32)).toNatClampNeg) (xs (i + (2 : Int32)).toNatClampNeg) (xs (i + (3 : Int32)).toNatClampNeg) (xs (i + (4 : Int32)).toNatClampNeg) (xs (i + (5 : Int32)).toNatClampNeg) q1.2.1 μ q1.2.2 _ hk7) rfl rfl (by rw [hR9]; decide) (lw_g_mk tw_1630 rfl) (lw_g_mk tw_7 rfl) (by decide) rfl (lw_g_mk tw_1627 rfl) rfl (Nat.le_of_ble_eq_true rfl) dL_law_1972 ⟨by omega, by omega⟩ ?_
  refine x_istore C [(7, .int q2.1), (6, .int q1.1), (0, .ref b), (1, .ref (B + oHB)), (2, .ref (B + oMd)), (3, .ref (B + oLOut)), (4, .ref (B + oLOutD)), (5, .int i)] dL_law_1975 (by decide) rfl ?_
  refine x_aload_n C dL_law_1977 rfl 4 rfl ?_
  obtain ⟨q3, hk8, h⟩ := Option.bind_eq_some_iff.mp h
  refine x_callV C (As := []) (rest := []) (lw_g_mk tw_1215 rfl) (lw_g_mk tw_1216 rfl) (c_Md) (C1 := "HostelBedsModel") (T := TX6) (N := 27) (ci := 6) rfl (okX6_thrown l cy D B ek q1.2.1 q2.2 q1.2.2 _ hk8) rfl rfl (by rw [hR9]; decide) (lw_g_mk tw_1217 rfl) (lw_g_mk tw_7 rfl) (by decide) rfl (lw_g_mk tw_1214 rfl) rfl (Nat.le_of_ble_eq_true rfl) dL_law_1978 ⟨by omega, by omega⟩ ?_
  refine x_iload C dL_law_1981 1 rfl ?_
  refine x_icmp_eq C (tgt := 1988) dL_law_1983 (by decide) (fun hc9 => ?_) (fun hc9 => ?_)
  · rw [if_pos hc9] at h
    refine x_iload C dL_law_1988 1 rfl ?_
    have hJ10 : ∀ (r9 : (Mem × Mem × Mem) ⊕ Unit), jL_law30_2005 q1 q2 = some r9 → (∀ q9, r9 = .inl q9 → ∀ nc2 ns2 : Nat, nc2 ≤ nc + 8 → ns2 ≤ ns + 48 → X p l e R s m args below meth c 9 cy D B nc2 ns2 Q 2861 [(0, .ref b), (1, .ref (B + oHB)), (2, .ref (B + oMd)), (3, .ref (B + oLOut)), (4, .ref (B + oLOutD)), (5, .int i)] [] q9.1 q9.2.1 q9.2.2) → (∀ u, r9 ≠ .inr u) → X p l e R s m args below meth c 9 cy D B (nc + 5) (ns + 30) Q 2005 [(0, .ref b), (1, .ref (B + oHB)), (2, .ref (B + oMd)), (3, .ref (B + oLOut)), (4, .ref (B + oLOutD)), (5, .int i)] [] q1.2.1 q2.2 q1.2.2 := by
      intro r9 h hcont hne
      unfold jL_law30_2005 at h
      refine x_goto C (tgt := 2861) dL_law_2005 (by decide) ?_
      cases h
      exact hcont _ rfl _ _ (by omega) (by omega)
    refine x_if_ne C (tgt := 2005) dL_law_1990 (by decide) (fun hc11 => ?_) (fun hc11 => ?_)
    · rw [if_pos hc11] at h
      refine x_sub [2, 3, 4, 5, 6, 7] rfl ?_
      exact hJ10 _ h hcont hne
    · rw [if_neg hc11] at h
      refine x_aload_n C dL_law_1993 rfl 5 rfl ?_
      refine x_iconst C (v := 0) dL_law_1994 (by decide) ?_
      refine x_lald C _ (c_LOut h9) (by decide : inb (0 : Int32) 1) dL_law_1995 ?_
      refine x_iload C dL_law_1996 0 rfl ?_
      refine x_i2l C dL_law_1998 ?_
      refine x_lcmp C dL_law_1999 ?_
      refine x_if_eq C (tgt := 2005) dL_law_2000 (by decide) (fun hc12 => ?_) (fun hc12 => ?_)
      · rw [if_pos hc12] at h
        refine x_sub [2, 3, 4, 5, 6, 7] rfl ?_
        exact hJ10 _ h hcont hne
      · rw [if_neg hc12] at h
        refine x_iconst C (v := 0) dL_law_2003 (by decide) ?_
        cases h
        exact absurd rfl (hne ())
  · rw [if_neg hc9] at h
    refine x_iconst C (v := 0) dL_law_1986 (by decide) ?_
    cases h
    exact absurd rfl (hne ())
def jL_law31_2097 (q1 : Int32 × Mem × Mem) (q2 : Int32 × Mem) : Option ((Mem × Mem × Mem) ⊕ Unit) := (some (.inl (q1.2.1, q2.2, q1.2.2)))
def fL_law31 (xs : Nat → Int32) (L : Nat) (i : Int32) (σ : Mem) (μ : Mem) (ω : Mem) : Option ((Mem × Mem × Mem) ⊕ Unit) := (gd (inb (i + (1 : Int32)) L) (gd (inb (i + (2 : Int32)) L) (gd (inb (i + (3 : Int32)) L) (gd (inb (i + (4 : Int32)) L) ((fL_bestStay_LOut (xs (i + (1 : Int32)).toNatClampNeg) (xs (i + (2 : Int32)).toNatClampNeg) (xs (i + (3 : Int32)).toNatClampNeg) (xs (i + (4 : Int32)).toNatClampNeg) σ ω).bind fun q1 => ((fX6_bestStay (xs (i + (1 : Int32)).toNatClampNeg) (xs (i + (2 : Int32)).toNatClampNeg) (xs (i + (3 : Int32)).toNatClampNeg) (xs (i + (4 : Int32)).toNatClampNeg) μ).bind fun q2 => ((fX6_thrown q2.2).bind fun q3 => (if q3 = q1.1 then (if ¬ q1.1 = 0 then (jL_law31_2097 q1 q2) else (if (lg_cmp (rJ q1.2.2 20 0 (0 : Int32).toNatClampNeg) q2.1.toInt64) = 0 then (jL_law31_2097 q1 q2) else (some (.inr ())))) else (some (.inr ()))))))))))
set_option maxHeartbeats 4000000 in
set_option maxRecDepth 100000 in
theorem okL_law31 {p : Program} {l : Launch} {e : Env} {R : Room} {s : State} {m : MethodId} {args : Array Value} {below : List Frame} {meth : Method} {c : Code} {cy : Nat → ClassId} {D : va_G} {B : Nat} {ek : EK} {Q : State → Prop} (C : Cx p s m args c 9 cy D B ek "HostelBedsLaw" cL_law) (hlf : l.stackTraces = false) (h9 : ¬ cy 9 = 0) (hR9 : R = room_1) {b L : Nat} {xs : Nat → Int32} (hX : va_X b L xs s s.heap) (hbl : b < s.heap.size) (hbA : ¬ aB B b) (nc ns : Nat) (hnc : nc + 8 ≤ R.cells) (hns : ns + 48 ≤ R.slots) (i : Int32) (σ μ ω : Mem) (r9 : (Mem × Mem × Mem) ⊕ Unit) (h : fL_law31 xs L i σ μ ω = some r9) (hcont : ∀ q9, r9 = .inl q9 → ∀ nc2 ns2 : Nat, nc2 ≤ nc + 8 → ns2 ≤ ns + 48 → X p l e R s m args below meth c 9 cy D B nc2 ns2 Q 2861 [(0, .ref b), (1, .ref (B + oHB)), (2, .ref (B + oMd)), (3, .ref (B + oLOut)), (4, .ref (B + oLOutD)), (5, .int i)] [] q9.1 q9.2.1 q9.2.2) (hne : ∀ u, r9 ≠ .inr u) : X p l e R s m args below meth c 9 cy D B nc ns Q 2008 [(0, .ref b), (1, .ref (B + oHB)), (2, .ref (B + oMd)), (3, .ref (B + oLOut)), (4, .ref (B + oLOutD)), (5, .int i)] [] σ μ ω := by
  unfold fL_law31 at h
  refine x_aload_n C dL_law_2008 rfl 1 rfl ?_
  refine x_aload_n C dL_law_2009 rfl 0 rfl ?_
  refine x_iload C dL_law_2010 5 rfl ?_
  refine x_iconst C (v := 1) dL_law_2012 (by decide) ?_
  refine x_iadd C dL_law_2013 ?_
  obtain ⟨hg1, h⟩ := gd_some h
  refine x_sld C hX hbl hbA hg1 dL_law_2014 ?_
  refine x_aload_n C dL_law_2015 rfl 0 rfl ?_
  refine x_iload C dL_law_2016 5 rfl ?_
  refine x_iconst C (v := 2) dL_law_2018 (by decide) ?_
  refine x_iadd C dL_law_2019 ?_
  obtain ⟨hg2, h⟩ := gd_some h
  refine x_sld C hX hbl hbA hg2 dL_law_2020 ?_
  refine x_aload_n C dL_law_2021 rfl 0 rfl ?_
  refine x_iload C dL_law_2022 5 rfl ?_
  refine x_iconst C (v := 3) dL_law_2024 (by decide) ?_
  refine x_iadd C dL_law_2025 ?_
  obtain ⟨hg3, h⟩ := gd_some h
  refine x_sld C hX hbl hbA hg3 dL_law_2026 ?_
  refine x_aload_n C dL_law_2027 rfl 0 rfl ?_
  refine x_iload C dL_law_2028 5 rfl ?_
  refine x_iconst C (v := 4) dL_law_2030 (by decide) ?_
  refine x_iadd C dL_law_2031 ?_
  obtain ⟨hg4, h⟩ := gd_some h
  refine x_sld C hX hbl hbA hg4 dL_law_2032 ?_
  refine x_aload_n C dL_law_2033 rfl 3 rfl ?_
  obtain ⟨q1, hk5, h⟩ := Option.bind_eq_some_iff.mp h
  refine x_callSW C (As := [.ref (B + oHB), .int (xs (i + (1 : Int32)).toNatClampNeg), .int (xs (i + (2 : Int32)).toNatClampNeg), .int (xs (i + (3 : Int32)).toNatClampNeg), .int (xs (i + (4 : Int32)).toNatClampNeg), .ref (B + oLOut)]) (rest := []) (cells2 := (nc + 5)) (slots2 := (ns + 30)) (lw_g_mk tw_1006 rfl) (okL_bestStay_LOut l hlf cy D B ek h9 (xs (i + (1 : Int32)).toNatClampNeg) (xs (i + (2 : Int32)).toNatClampNeg) (xs (i + (3 : Int32)).toNatClampNeg) (xs (i + (4 : Int32)).toNatClampNeg) σ μ ω _ hk5) rfl rfl (by rw [hR9]; decide) (lw_g_mk tw_1007 rfl) (lw_g_mk tw_0 rfl) (by decide) rfl (lw_g_mk tw_1005 rfl) rfl (Nat.le_of_ble_eq_true rfl) dL_law_2034 ⟨by omega, by omega⟩ rfl rfl ?_
  refine x_istore C [(6, .int q1.1), (0, .ref b), (1, .ref (B + oHB)), (2, .ref (B + oMd)), (3, .ref (B + oLOut)), (4, .ref (B + oLOutD)), (5, .int i)] dL_law_2037 (by decide) rfl ?_
  refine x_aload_n C dL_law_2039 rfl 3 rfl ?_
  refine x_aload_n C dL_law_2040 rfl 1 rfl ?_
  refine x_iload C dL_law_2041 6 rfl ?_
  refine x_iconst C (v := 1) dL_law_2043 (by decide) ?_
  refine x_iadd C dL_law_2044 ?_
  refine x_sld C hX hbl hbA hg1 dL_law_2045 ?_
  refine x_aload_n C dL_law_2046 rfl 1 rfl ?_
  refine x_iload C dL_law_2047 6 rfl ?_
  refine x_iconst C (v := 2) dL_law_2049 (by decide) ?_
  refine x_iadd C dL_law_2050 ?_
  refine x_sld C hX hbl hbA hg2 dL_law_2051 ?_
  refine x_aload_n C dL_law_2052 rfl 1 rfl ?_
  refine x_iload C dL_law_2053 6 rfl ?_
  refine x_iconst C (v := 3) dL_law_2055 (by decide) ?_
  refine x_iadd C dL_law_2056 ?_
  refine x_sld C hX hbl hbA hg3 dL_law_2057 ?_
  refine x_aload_n C dL_law_2058 rfl 1 rfl ?_
  refine x_iload C dL_law_2059 6 rfl ?_
  refine x_iconst C (v := 4) dL_law_2061 (by decide) ?_
  refine x_iadd C dL_law_2062 ?_
  refine x_sld C hX hbl hbA hg4 dL_law_2063 ?_
  obtain ⟨q2, hk6, h⟩ := Option.bind_eq_some_iff.mp h
  refine x_callV C (As := [.int (xs (i + (1 : Int32)).toNatClampNeg), .int (xs (i + (2 : Int32)).toNatClampNeg), .int (xs (i + (3 : Int32)).toNatClampNeg), .int (xs (i + (4 : Int32)).toNatClampNeg)]) (rest := []) (lw_g_mk tw_1646 rfl) (lw_g_mk tw_1647 rfl) (c_Md) (C1 := "HostelBedsModel") (T := TX6) (N := 27) (ci := 6) rfl (okX6_bestStay l cy D B ek (xs (i + (1 : Int32)).toNatClampNeg) (xs (i + (2 : Int32)).toNatClampNeg) (xs (i + (3 : Int32)).toNatClampNeg) (xs (i + (4 : Int32)).toNatClampNeg) q1.2.1 μ q1.2.2 _ hk6) rfl rfl (by rw [hR9]; decide) (lw_g_mk tw_1648 rfl) (lw_g_mk tw_7 rfl) (by decide) rfl (lw_g_mk tw_1645 rfl) rfl (Nat.le_of_ble_eq_true rfl) dL_law_2064 ⟨by omega, by omega⟩ ?_
  refine x_istore C [(7, .int q2.1), (6, .int q1.1), (0, .ref b), (1, .ref (B + oHB)), (2, .ref (B + oMd)), (3, .ref (B + oLOut)), (4, .ref (B + oLOutD)), (5, .int i)] dL_law_2067 (by decide) rfl ?_
  refine x_aload_n C dL_law_2069 rfl 4 rfl ?_
  obtain ⟨q3, hk7, h⟩ := Option.bind_eq_some_iff.mp h
  refine x_callV C (As := []) (rest := []) (lw_g_mk tw_1215 rfl) (lw_g_mk tw_1216 rfl) (c_Md) (C1 := "HostelBedsModel") (T := TX6) (N := 27) (ci := 6) rfl (okX6_thrown l cy D B ek q1.2.1 q2.2 q1.2.2 _ hk7) rfl rfl (by rw [hR9]; decide) (lw_g_mk tw_1217 rfl) (lw_g_mk tw_7 rfl) (by decide) rfl (lw_g_mk tw_1214 rfl) rfl (Nat.le_of_ble_eq_true rfl) dL_law_2070 ⟨by omega, by omega⟩ ?_
  refine x_iload C dL_law_2073 1 rfl ?_
  refine x_icmp_eq C (tgt := 2080) dL_law_2075 (by decide) (fun hc8 => ?_) (fun hc8 => ?_)
  · rw [if_pos hc8] at h
    refine x_iload C dL_law_2080 1 rfl ?_
    have hJ9 : ∀ (r9 : (Mem × Mem × Mem) ⊕ Unit), jL_law31_2097 q1 q2 = some r9 → (∀ q9, r9 = .inl q9 → ∀ nc2 ns2 : Nat, nc2 ≤ nc + 8 → ns2 ≤ ns + 48 → X p l e R s m args below meth c 9 cy D B nc2 ns2 Q 2861 [(0, .ref b), (1, .ref (B + oHB)), (2, .ref (B + oMd)), (3, .ref (B + oLOut)), (4, .ref (B + oLOutD)), (5, .int i)] [] q9.1 q9.2.1 q9.2.2) → (∀ u, r9 ≠ .inr u) → X p l e R s m args below meth c 9 cy D B (nc + 5) (ns + 30) Q 2097 [(0, .ref b), (1, .ref (B + oHB)), (2, .ref (B + oMd)), (3, .ref (B + oLOut)), (4, .ref (B + oLOutD)), (5, .int i)] [] q1.2.1 q2.2 q1.2.2 := by
      intro r9 h hcont hne
      unfold jL_law31_2097 at h
      refine x_goto C (tgt := 2861) dL_law_2097 (by decide) ?_
      cases h
      exact hcont _ rfl _ _ (by omega) (by omega)
    refine x_if_ne C (tgt := 2097) dL_law_2082 (by decide) (fun hc10 => ?_) (fun hc10 => ?_)
    · rw [if_pos hc10] at h
      refine x_sub [2, 3, 4, 5, 6, 7] rfl ?_
      exact hJ9 _ h hcont hne
    · rw [if_neg hc10] at h
      refine x_aload_n C dL_law_2085 rfl 5 rfl ?_
      refine x_iconst C (v := 0) dL_law_2086 (by decide) ?_
      refine x_lald C _ (c_LOut h9) (by decide : inb (0 : Int32) 1) dL_law_2087 ?_
      refine x_iload C dL_law_2088 0 rfl ?_
      refine x_i2l C dL_law_2090 ?_
      refine x_lcmp C dL_law_2091 ?_
      refine x_if_eq C (tgt := 2097) dL_law_2092 (by decide) (fun hc11 => ?_) (fun hc11 => ?_)
      · rw [if_pos hc11] at h
        refine x_sub [2, 3, 4, 5, 6, 7] rfl ?_
        exact hJ9 _ h hcont hne
      · rw [if_neg hc11] at h
        refine x_iconst C (v := 0) dL_law_2095 (by decide) ?_
        cases h
        exact absurd rfl (hne ())
  · rw [if_neg hc8] at h
    refine x_iconst C (v := 0) dL_law_2078 (by decide) ?_
    cases h
    exact absurd rfl (hne ())
def jL_law32_2153 (q1 : Int32 × Mem × Mem) (q2 : Int32 × Mem) : Option ((Mem × Mem × Mem) ⊕ Unit) := (some (.inl (q1.2.1, q2.2, q1.2.2)))
def fL_law32 (xs : Nat → Int32) (L : Nat) (i : Int32) (σ : Mem) (μ : Mem) (ω : Mem) : Option ((Mem × Mem × Mem) ⊕ Unit) := (gd (inb (i + (1 : Int32)) L) ((fL_netWithout_LOut (xs (i + (1 : Int32)).toNatClampNeg) σ ω).bind fun q1 => ((fX6_netWithout (xs (i + (1 : Int32)).toNatClampNeg) μ).bind fun q2 => ((fX6_thrown q2.2).bind fun q3 => (if q3 = q1.1 then (if ¬ q1.1 = 0 then (jL_law32_2153 q1 q2) else (if (lg_cmp (rJ q1.2.2 20 0 (0 : Int32).toNatClampNeg) q2.1.toInt64) = 0 then (jL_law32_2153 q1 q2) else (some (.inr ())))) else (some (.inr ())))))))
set_option maxHeartbeats 4000000 in
set_option maxRecDepth 100000 in
theorem okL_law32 {p : Program} {l : Launch} {e : Env} {R : Room} {s : State} {m : MethodId} {args : Array Value} {below : List Frame} {meth : Method} {c : Code} {cy : Nat → ClassId} {D : va_G} {B : Nat} {ek : EK} {Q : State → Prop} (C : Cx p s m args c 9 cy D B ek "HostelBedsLaw" cL_law) (hlf : l.stackTraces = false) (h9 : ¬ cy 9 = 0) (hR9 : R = room_1) {b L : Nat} {xs : Nat → Int32} (hX : va_X b L xs s s.heap) (hbl : b < s.heap.size) (hbA : ¬ aB B b) (nc ns : Nat) (hnc : nc + 8 ≤ R.cells) (hns : ns + 48 ≤ R.slots) (i : Int32) (σ μ ω : Mem) (r9 : (Mem × Mem × Mem) ⊕ Unit) (h : fL_law32 xs L i σ μ ω = some r9) (hcont : ∀ q9, r9 = .inl q9 → ∀ nc2 ns2 : Nat, nc2 ≤ nc + 8 → ns2 ≤ ns + 48 → X p l e R s m args below meth c 9 cy D B nc2 ns2 Q 2861 [(0, .ref b), (1, .ref (B + oHB)), (2, .ref (B + oMd)), (3, .ref (B + oLOut)), (4, .ref (B + oLOutD)), (5, .int i)] [] q9.1 q9.2.1 q9.2.2) (hne : ∀ u, r9 ≠ .inr u) : X p l e R s m args below meth c 9 cy D B nc ns Q 2100 [(0, .ref b), (1, .ref (B + oHB)), (2, .ref (B + oMd)), (3, .ref (B + oLOut)), (4, .ref (B + oLOutD)), (5, .int i)] [] σ μ ω := by
  unfold fL_law32 at h
  refine x_aload_n C dL_law_2100 rfl 1 rfl ?_
  refine x_aload_n C dL_law_2101 rfl 0 rfl ?_
  refine x_iload C dL_law_2102 5 rfl ?_
  refine x_iconst C (v := 1) dL_law_2104 (by decide) ?_
  refine x_iadd C dL_law_2105 ?_
  obtain ⟨hg1, h⟩ := gd_some h
  refine x_sld C hX hbl hbA hg1 dL_law_2106 ?_
  refine x_aload_n C dL_law_2107 rfl 3 rfl ?_
  obtain ⟨q1, hk2, h⟩ := Option.bind_eq_some_iff.mp h
  refine x_callSW C (As := [.ref (B + oHB), .int (xs (i + (1 : Int32)).toNatClampNeg), .ref (B + oLOut)]) (rest := []) (cells2 := (nc + 1)) (slots2 := (ns + 6)) (lw_g_mk tw_1013 rfl) (okL_netWithout_LOut l hlf cy D B ek h9 (xs (i + (1 : Int32)).toNatClampNeg) σ μ ω _ hk2) rfl rfl (by rw [hR9]; decide) (lw_g_mk tw_1014 rfl) (lw_g_mk tw_0 rfl) (by decide) rfl (lw_g_mk tw_1012 rfl) rfl (Nat.le_of_ble_eq_true rfl) dL_law_2108 ⟨by omega, by omega⟩ rfl rfl ?_
  refine x_istore C [(6, .int q1.1), (0, .ref b), (1, .ref (B + oHB)), (2, .ref (B + oMd)), (3, .ref (B + oLOut)), (4, .ref (B + oLOutD)), (5, .int i)] dL_law_2111 (by decide) rfl ?_
  refine x_aload_n C dL_law_2113 rfl 3 rfl ?_
  refine x_aload_n C dL_law_2114 rfl 1 rfl ?_
  refine x_iload C dL_law_2115 6 rfl ?_
  refine x_iconst C (v := 1) dL_law_2117 (by decide) ?_
  refine x_iadd C dL_law_2118 ?_
  refine x_sld C hX hbl hbA hg1 dL_law_2119 ?_
  obtain ⟨q2, hk3, h⟩ := Option.bind_eq_some_iff.mp h
  refine x_callV C (As := [.int (xs (i + (1 : Int32)).toNatClampNeg)]) (rest := []) (lw_g_mk tw_1650 rfl) (lw_g_mk tw_1651 rfl) (c_Md) (C1 := "HostelBedsModel") (T := TX6) (N := 27) (ci := 6) rfl (okX6_netWithout l cy D B ek (xs (i + (1 : Int32)).toNatClampNeg) q1.2.1 μ q1.2.2 _ hk3) rfl rfl (by rw [hR9]; decide) (lw_g_mk tw_1652 rfl) (lw_g_mk tw_7 rfl) (by decide) rfl (lw_g_mk tw_1649 rfl) rfl (Nat.le_of_ble_eq_true rfl) dL_law_2120 ⟨by omega, by omega⟩ ?_
  refine x_istore C [(7, .int q2.1), (6, .int q1.1), (0, .ref b), (1, .ref (B + oHB)), (2, .ref (B + oMd)), (3, .ref (B + oLOut)), (4, .ref (B + oLOutD)), (5, .int i)] dL_law_2123 (by decide) rfl ?_
  refine x_aload_n C dL_law_2125 rfl 4 rfl ?_
  obtain ⟨q3, hk4, h⟩ := Option.bind_eq_some_iff.mp h
  refine x_callV C (As := []) (rest := []) (lw_g_mk tw_1215 rfl) (lw_g_mk tw_1216 rfl) (c_Md) (C1 := "HostelBedsModel") (T := TX6) (N := 27) (ci := 6) rfl (okX6_thrown l cy D B ek q1.2.1 q2.2 q1.2.2 _ hk4) rfl rfl (by rw [hR9]; decide) (lw_g_mk tw_1217 rfl) (lw_g_mk tw_7 rfl) (by decide) rfl (lw_g_mk tw_1214 rfl) rfl (Nat.le_of_ble_eq_true rfl) dL_law_2126 ⟨by omega, by omega⟩ ?_
  refine x_iload C dL_law_2129 1 rfl ?_
  refine x_icmp_eq C (tgt := 2136) dL_law_2131 (by decide) (fun hc5 => ?_) (fun hc5 => ?_)
  · rw [if_pos hc5] at h
    refine x_iload C dL_law_2136 1 rfl ?_
    have hJ6 : ∀ (r9 : (Mem × Mem × Mem) ⊕ Unit), jL_law32_2153 q1 q2 = some r9 → (∀ q9, r9 = .inl q9 → ∀ nc2 ns2 : Nat, nc2 ≤ nc + 8 → ns2 ≤ ns + 48 → X p l e R s m args below meth c 9 cy D B nc2 ns2 Q 2861 [(0, .ref b), (1, .ref (B + oHB)), (2, .ref (B + oMd)), (3, .ref (B + oLOut)), (4, .ref (B + oLOutD)), (5, .int i)] [] q9.1 q9.2.1 q9.2.2) → (∀ u, r9 ≠ .inr u) → X p l e R s m args below meth c 9 cy D B (nc + 1) (ns + 6) Q 2153 [(0, .ref b), (1, .ref (B + oHB)), (2, .ref (B + oMd)), (3, .ref (B + oLOut)), (4, .ref (B + oLOutD)), (5, .int i)] [] q1.2.1 q2.2 q1.2.2 := by
      intro r9 h hcont hne
      unfold jL_law32_2153 at h
      refine x_goto C (tgt := 2861) dL_law_2153 (by decide) ?_
      cases h
      exact hcont _ rfl _ _ (by omega) (by omega)
    refine x_if_ne C (tgt := 2153) dL_law_2138 (by decide) (fun hc7 => ?_) (fun hc7 => ?_)
    · rw [if_pos hc7] at h
      refine x_sub [2, 3, 4, 5, 6, 7] rfl ?_
      exact hJ6 _ h hcont hne
    · rw [if_neg hc7] at h
      refine x_aload_n C dL_law_2141 rfl 5 rfl ?_
      refine x_iconst C (v := 0) dL_law_2142 (by decide) ?_
      refine x_lald C _ (c_LOut h9) (by decide : inb (0 : Int32) 1) dL_law_2143 ?_
      refine x_iload C dL_law_2144 0 rfl ?_
      refine x_i2l C dL_law_2146 ?_
      refine x_lcmp C dL_law_2147 ?_
      refine x_if_eq C (tgt := 2153) dL_law_2148 (by decide) (fun hc8 => ?_) (fun hc8 => ?_)
      · rw [if_pos hc8] at h
        refine x_sub [2, 3, 4, 5, 6, 7] rfl ?_
        exact hJ6 _ h hcont hne
      · rw [if_neg hc8] at h
        refine x_iconst C (v := 0) dL_law_2151 (by decide) ?_
        cases h
        exact absurd rfl (hne ())
  · rw [if_neg hc5] at h
    refine x_iconst C (v := 0) dL_law_2134 (by decide) ?_
    cases h
    exact absurd rfl (hne ())
def fL_law33 (xs : Nat → Int32) (L : Nat) (i : Int32) (σ : Mem) (μ : Mem) (ω : Mem) : Option ((Mem × Mem × Mem) ⊕ Unit) := ((fX5_bestOver σ).bind fun q1 => ((fX6_bestOver μ).bind fun q2 => (if q1.1 = q2.1 then (some (.inl (q1.2, q2.2, ω))) else (some (.inr ())))))
set_option maxHeartbeats 4000000 in
set_option maxRecDepth 100000 in
theorem okL_law33 {p : Program} {l : Launch} {e : Env} {R : Room} {s : State} {m : MethodId} {args : Array Value} {below : List Frame} {meth : Method} {c : Code} {cy : Nat → ClassId} {D : va_G} {B : Nat} {ek : EK} {Q : State → Prop} (C : Cx p s m args c 9 cy D B ek "HostelBedsLaw" cL_law) (hlf : l.stackTraces = false) (h9 : ¬ cy 9 = 0) (hR9 : R = room_1) {b L : Nat} {xs : Nat → Int32} (hX : va_X b L xs s s.heap) (hbl : b < s.heap.size) (hbA : ¬ aB B b) (nc ns : Nat) (hnc : nc + 8 ≤ R.cells) (hns : ns + 48 ≤ R.slots) (i : Int32) (σ μ ω : Mem) (r9 : (Mem × Mem × Mem) ⊕ Unit) (h : fL_law33 xs L i σ μ ω = some r9) (hcont : ∀ q9, r9 = .inl q9 → ∀ nc2 ns2 : Nat, nc2 ≤ nc + 8 → ns2 ≤ ns + 48 → X p l e R s m args below meth c 9 cy D B nc2 ns2 Q 2861 [(0, .ref b), (1, .ref (B + oHB)), (2, .ref (B + oMd)), (3, .ref (B + oLOut)), (4, .ref (B + oLOutD)), (5, .int i)] [] q9.1 q9.2.1 q9.2.2) (hne : ∀ u, r9 ≠ .inr u) : X p l e R s m args below meth c 9 cy D B nc ns Q 2156 [(0, .ref b), (1, .ref (B + oHB)), (2, .ref (B + oMd)), (3, .ref (B + oLOut)), (4, .ref (B + oLOutD)), (5, .int i)] [] σ μ ω := by
  unfold fL_law33 at h
  refine x_aload_n C dL_law_2156 rfl 1 rfl ?_
  obtain ⟨q1, hk1, h⟩ := Option.bind_eq_some_iff.mp h
  refine x_callV C (As := []) (rest := []) (lw_g_mk tw_359 rfl) (lw_g_mk tw_360 rfl) (c_HB) (C1 := "HostelBeds") (T := TX5) (N := 12) (ci := 5) rfl (okX5_bestOver l cy D B ek σ μ ω _ hk1) rfl rfl (by rw [hR9]; decide) (lw_g_mk tw_361 rfl) (lw_g_mk tw_1 rfl) (by decide) rfl (lw_g_mk tw_358 rfl) rfl (Nat.le_of_ble_eq_true rfl) dL_law_2157 ⟨by omega, by omega⟩ ?_
  refine x_aload_n C dL_law_2160 rfl 2 rfl ?_
  obtain ⟨q2, hk2, h⟩ := Option.bind_eq_some_iff.mp h
  refine x_callV C (As := []) (rest := [.int q1.1]) (lw_g_mk tw_1654 rfl) (lw_g_mk tw_1655 rfl) (c_Md) (C1 := "HostelBedsModel") (T := TX6) (N := 27) (ci := 6) rfl (okX6_bestOver l cy D B ek q1.2 μ ω _ hk2) rfl rfl (by rw [hR9]; decide) (lw_g_mk tw_1656 rfl) (lw_g_mk tw_7 rfl) (by decide) rfl (lw_g_mk tw_1653 rfl) rfl (Nat.le_of_ble_eq_true rfl) dL_law_2161 ⟨by omega, by omega⟩ ?_
  refine x_icmp_eq C (tgt := 2861) dL_law_2164 (by decide) (fun hc3 => ?_) (fun hc3 => ?_)
  · rw [if_pos hc3] at h
    cases h
    exact hcont _ rfl _ _ (by omega) (by omega)
  · rw [if_neg hc3] at h
    refine x_iconst C (v := 0) dL_law_2167 (by decide) ?_
    cases h
    exact absurd rfl (hne ())
def jL_law34_2284 (q1 : Int32 × Mem × Mem) (q2 : Int32 × Mem) : Option ((Mem × Mem × Mem) ⊕ Unit) := (some (.inl (q1.2.1, q2.2, q1.2.2)))
def fL_law34 (xs : Nat → Int32) (L : Nat) (i : Int32) (σ : Mem) (μ : Mem) (ω : Mem) : Option ((Mem × Mem × Mem) ⊕ Unit) := (gd (inb (i + (1 : Int32)) L) (gd (inb (i + (2 : Int32)) L) (gd (inb (i + (3 : Int32)) L) (gd (inb (i + (4 : Int32)) L) (gd (inb (i + (5 : Int32)) L) (gd (inb (i + (6 : Int32)) L) ((fL_book_LOut (xs (i + (1 : Int32)).toNatClampNeg) (xs (i + (2 : Int32)).toNatClampNeg) (xs (i + (3 : Int32)).toNatClampNeg) (xs (i + (4 : Int32)).toNatClampNeg) (xs (i + (5 : Int32)).toNatClampNeg) (xs (i + (6 : Int32)).toNatClampNeg) σ ω).bind fun q1 => ((fX6_book (xs (i + (1 : Int32)).toNatClampNeg) (xs (i + (2 : Int32)).toNatClampNeg) (xs (i + (3 : Int32)).toNatClampNeg) (xs (i + (4 : Int32)).toNatClampNeg) (xs (i + (5 : Int32)).toNatClampNeg) (xs (i + (6 : Int32)).toNatClampNeg) μ).bind fun q2 => ((fX6_thrown q2.2).bind fun q3 => (if q3 = q1.1 then (if ¬ q1.1 = 0 then (jL_law34_2284 q1 q2) else (if (lg_cmp (rJ q1.2.2 20 0 (0 : Int32).toNatClampNeg) q2.1.toInt64) = 0 then (jL_law34_2284 q1 q2) else (some (.inr ())))) else (some (.inr ()))))))))))))
set_option maxHeartbeats 4000000 in
set_option maxRecDepth 100000 in
theorem okL_law34 {p : Program} {l : Launch} {e : Env} {R : Room} {s : State} {m : MethodId} {args : Array Value} {below : List Frame} {meth : Method} {c : Code} {cy : Nat → ClassId} {D : va_G} {B : Nat} {ek : EK} {Q : State → Prop} (C : Cx p s m args c 9 cy D B ek "HostelBedsLaw" cL_law) (hlf : l.stackTraces = false) (h9 : ¬ cy 9 = 0) (hR9 : R = room_1) {b L : Nat} {xs : Nat → Int32} (hX : va_X b L xs s s.heap) (hbl : b < s.heap.size) (hbA : ¬ aB B b) (nc ns : Nat) (hnc : nc + 8 ≤ R.cells) (hns : ns + 48 ≤ R.slots) (i : Int32) (σ μ ω : Mem) (r9 : (Mem × Mem × Mem) ⊕ Unit) (h : fL_law34 xs L i σ μ ω = some r9) (hcont : ∀ q9, r9 = .inl q9 → ∀ nc2 ns2 : Nat, nc2 ≤ nc + 8 → ns2 ≤ ns + 48 → X p l e R s m args below meth c 9 cy D B nc2 ns2 Q 2861 [(0, .ref b), (1, .ref (B + oHB)), (2, .ref (B + oMd)), (3, .ref (B + oLOut)), (4, .ref (B + oLOutD)), (5, .int i)] [] q9.1 q9.2.1 q9.2.2) (hne : ∀ u, r9 ≠ .inr u) : X p l e R s m args below meth c 9 cy D B nc ns Q 2169 [(0, .ref b), (1, .ref (B + oHB)), (2, .ref (B + oMd)), (3, .ref (B + oLOut)), (4, .ref (B + oLOutD)), (5, .int i)] [] σ μ ω := by
  unfold fL_law34 at h
  refine x_aload_n C dL_law_2169 rfl 1 rfl ?_
  refine x_aload_n C dL_law_2170 rfl 0 rfl ?_
  refine x_iload C dL_law_2171 5 rfl ?_
  refine x_iconst C (v := 1) dL_law_2173 (by decide) ?_
  refine x_iadd C dL_law_2174 ?_
  obtain ⟨hg1, h⟩ := gd_some h
  refine x_sld C hX hbl hbA hg1 dL_law_2175 ?_
  refine x_aload_n C dL_law_2176 rfl 0 rfl ?_
  refine x_iload C dL_law_2177 5 rfl ?_
  refine x_iconst C (v := 2) dL_law_2179 (by decide) ?_
  refine x_iadd C dL_law_2180 ?_
  obtain ⟨hg2, h⟩ := gd_some h
  refine x_sld C hX hbl hbA hg2 dL_law_2181 ?_
  refine x_aload_n C dL_law_2182 rfl 0 rfl ?_
  refine x_iload C dL_law_2183 5 rfl ?_
  refine x_iconst C (v := 3) dL_law_2185 (by decide) ?_
  refine x_iadd C dL_law_2186 ?_
  obtain ⟨hg3, h⟩ := gd_some h
  refine x_sld C hX hbl hbA hg3 dL_law_2187 ?_
  refine x_aload_n C dL_law_2188 rfl 0 rfl ?_
  refine x_iload C dL_law_2189 5 rfl ?_
  refine x_iconst C (v := 4) dL_law_2191 (by decide) ?_
  refine x_iadd C dL_law_2192 ?_
  obtain ⟨hg4, h⟩ := gd_some h
  refine x_sld C hX hbl hbA hg4 dL_law_2193 ?_
  refine x_aload_n C dL_law_2194 rfl 0 rfl ?_
  refine x_iload C dL_law_2195 5 rfl ?_
  refine x_iconst C (v := 5) dL_law_2197 (by decide) ?_
  refine x_iadd C dL_law_2198 ?_
  obtain ⟨hg5, h⟩ := gd_some h
  refine x_sld C hX hbl hbA hg5 dL_law_2199 ?_
  refine x_aload_n C dL_law_2200 rfl 0 rfl ?_
  refine x_iload C dL_law_2201 5 rfl ?_
  refine x_bipush C (v := 6) dL_law_2203 (by decide) ?_
  refine x_iadd C dL_law_2205 ?_
  obtain ⟨hg6, h⟩ := gd_some h
  refine x_sld C hX hbl hbA hg6 dL_law_2206 ?_
  refine x_aload_n C dL_law_2207 rfl 3 rfl ?_
  obtain ⟨q1, hk7, h⟩ := Option.bind_eq_some_iff.mp h
  refine x_callSW C (As := [.ref (B + oHB), .int (xs (i + (1 : Int32)).toNatClampNeg), .int (xs (i + (2 : Int32)).toNatClampNeg), .int (xs (i + (3 : Int32)).toNatClampNeg), .int (xs (i + (4 : Int32)).toNatClampNeg), .int (xs (i + (5 : Int32)).toNatClampNeg), .int (xs (i + (6 : Int32)).toNatClampNeg), .ref (B + oLOut)]) (rest := []) (cells2 := (nc + 7)) (slots2 := (ns + 42)) (lw_g_mk tw_1021 rfl) (okL_book_LOut l hlf cy D B ek h9 (xs (i + (1 : Int32)).toNatClampNeg) (xs (i + (2 : Int32)).toNatClampNeg) (xs (i + (3 : Int32)).toNatClampNeg) (xs (i + (4 : Int32)).toNatClampNeg) (xs (i + (5 : Int32)).toNatClampNeg) (xs (i + (6 : Int32)).toNatClampNeg) σ μ ω _ hk7) rfl rfl (by rw [hR9]; decide) (lw_g_mk tw_1022 rfl) (lw_g_mk tw_0 rfl) (by decide) rfl (lw_g_mk tw_1020 rfl) rfl (Nat.le_of_ble_eq_true rfl) dL_law_2208 ⟨by omega, by omega⟩ rfl rfl ?_
  refine x_istore C [(6, .int q1.1), (0, .ref b), (1, .ref (B + oHB)), (2, .ref (B + oMd)), (3, .ref (B + oLOut)), (4, .ref (B + oLOutD)), (5, .int i)] dL_law_2211 (by decide) rfl ?_
  refine x_aload_n C dL_law_2213 rfl 3 rfl ?_
  refine x_aload_n C dL_law_2214 rfl 1 rfl ?_
  refine x_iload C dL_law_2215 6 rfl ?_
  refine x_iconst C (v := 1) dL_law_2217 (by decide) ?_
  refine x_iadd C dL_law_2218 ?_
  refine x_sld C hX hbl hbA hg1 dL_law_2219 ?_
  refine x_aload_n C dL_law_2220 rfl 1 rfl ?_
  refine x_iload C dL_law_2221 6 rfl ?_
  refine x_iconst C (v := 2) dL_law_2223 (by decide) ?_
  refine x_iadd C dL_law_2224 ?_
  refine x_sld C hX hbl hbA hg2 dL_law_2225 ?_
  refine x_aload_n C dL_law_2226 rfl 1 rfl ?_
  refine x_iload C dL_law_2227 6 rfl ?_
  refine x_iconst C (v := 3) dL_law_2229 (by decide) ?_
  refine x_iadd C dL_law_2230 ?_
  refine x_sld C hX hbl hbA hg3 dL_law_2231 ?_
  refine x_aload_n C dL_law_2232 rfl 1 rfl ?_
  refine x_iload C dL_law_2233 6 rfl ?_
  refine x_iconst C (v := 4) dL_law_2235 (by decide) ?_
  refine x_iadd C dL_law_2236 ?_
  refine x_sld C hX hbl hbA hg4 dL_law_2237 ?_
  refine x_aload_n C dL_law_2238 rfl 1 rfl ?_
  refine x_iload C dL_law_2239 6 rfl ?_
  refine x_iconst C (v := 5) dL_law_2241 (by decide) ?_
  refine x_iadd C dL_law_2242 ?_
  refine x_sld C hX hbl hbA hg5 dL_law_2243 ?_
  refine x_aload_n C dL_law_2244 rfl 1 rfl ?_
  refine x_iload C dL_law_2245 6 rfl ?_
  refine x_bipush C (v := 6) dL_law_2247 (by decide) ?_
  refine x_iadd C dL_law_2249 ?_
  refine x_sld C hX hbl hbA hg6 dL_law_2250 ?_
  obtain ⟨q2, hk8, h⟩ := Option.bind_eq_some_iff.mp h
  refine x_callV C (As := [.int (xs (i + (1 : Int32)).toNatClampNeg), .int (xs (i + (2 : Int32)).toNatClampNeg), .int (xs (i + (3 : Int32)).toNatClampNeg), .int (xs (i + (4 : Int32)).toNatClampNeg), .int (xs (i + (5 : Int32)).toNatClampNeg), .int (xs (i + (6 : Int32)).toNatClampNeg)]) (rest := []) (lw_g_mk tw_1670 rfl) (lw_g_mk tw_1671 rfl) (c_Md) (C1 := "HostelBedsModel") (T := TX6) (N := 27) (ci := 6) rfl (okX6_book l cy D B ek (xs (i + (1 : Int32)).toNatClampNeg) (xs (i + (2 : Int32)).toNatClampNeg) (xs (i + (3 : Int32)).toNatClampNeg) (xs (i + (4 : Int32)).toNatClampNeg) (xs (i + (5 : Int32)).toNatClampNeg) (xs (i + (6 : Int32)).toNatClampNeg) q1.2.1 μ q1.2.2 _ hk8) rfl rfl (by rw [hR9]; decide) (lw_g_mk tw_1672 rfl) (lw_g_mk tw_7 rfl) (by decide) rfl (lw_g_mk tw_1669 rfl) rfl (Nat.le_of_ble_eq_true rfl) dL_law_2251 ⟨by omega, by omega⟩ ?_
  refine x_istore C [(7, .int q2.1), (6, .int q1.1), (0, .ref b), (1, .ref (B + oHB)), (2, .ref (B + oMd)), (3, .ref (B + oLOut)), (4, .ref (B + oLOutD)), (5, .int i)] dL_law_2254 (by decide) rfl ?_
  refine x_aload_n C dL_law_2256 rfl 4 rfl ?_
  obtain ⟨q3, hk9, h⟩ := Option.bind_eq_some_iff.mp h
  refine x_callV C (As := []) (rest := []) (lw_g_mk tw_1215 rfl) (lw_g_mk tw_1216 rfl) (c_Md) (C1 := "HostelBedsModel") (T := TX6) (N := 27) (ci := 6) rfl (okX6_thrown l cy D B ek q1.2.1 q2.2 q1.2.2 _ hk9) rfl rfl (by rw [hR9]; decide) (lw_g_mk tw_1217 rfl) (lw_g_mk tw_7 rfl) (by decide) rfl (lw_g_mk tw_1214 rfl) rfl (Nat.le_of_ble_eq_true rfl) dL_law_2257 ⟨by omega, by omega⟩ ?_
  refine x_iload C dL_law_2260 1 rfl ?_
  refine x_icmp_eq C (tgt := 2267) dL_law_2262 (by decide) (fun hc10 => ?_) (fun hc10 => ?_)
  · rw [if_pos hc10] at h
    refine x_iload C dL_law_2267 1 rfl ?_
    have hJ11 : ∀ (r9 : (Mem × Mem × Mem) ⊕ Unit), jL_law34_2284 q1 q2 = some r9 → (∀ q9, r9 = .inl q9 → ∀ nc2 ns2 : Nat, nc2 ≤ nc + 8 → ns2 ≤ ns + 48 → X p l e R s m args below meth c 9 cy D B nc2 ns2 Q 2861 [(0, .ref b), (1, .ref (B + oHB)), (2, .ref (B + oMd)), (3, .ref (B + oLOut)), (4, .ref (B + oLOutD)), (5, .int i)] [] q9.1 q9.2.1 q9.2.2) → (∀ u, r9 ≠ .inr u) → X p l e R s m args below meth c 9 cy D B (nc + 7) (ns + 42) Q 2284 [(0, .ref b), (1, .ref (B + oHB)), (2, .ref (B + oMd)), (3, .ref (B + oLOut)), (4, .ref (B + oLOutD)), (5, .int i)] [] q1.2.1 q2.2 q1.2.2 := by
      intro r9 h hcont hne
      unfold jL_law34_2284 at h
      refine x_goto C (tgt := 2861) dL_law_2284 (by decide) ?_
      cases h
      exact hcont _ rfl _ _ (by omega) (by omega)
    refine x_if_ne C (tgt := 2284) dL_law_2269 (by decide) (fun hc12 => ?_) (fun hc12 => ?_)
    · rw [if_pos hc12] at h
      refine x_sub [2, 3, 4, 5, 6, 7] rfl ?_
      exact hJ11 _ h hcont hne
    · rw [if_neg hc12] at h
      refine x_aload_n C dL_law_2272 rfl 5 rfl ?_
      refine x_iconst C (v := 0) dL_law_2273 (by decide) ?_
      refine x_lald C _ (c_LOut h9) (by decide : inb (0 : Int32) 1) dL_law_2274 ?_
      refine x_iload C dL_law_2275 0 rfl ?_
      refine x_i2l C dL_law_2277 ?_
      refine x_lcmp C dL_law_2278 ?_
      refine x_if_eq C (tgt := 2284) dL_law_2279 (by decide) (fun hc13 => ?_) (fun hc13 => ?_)
      · rw [if_pos hc13] at h
        refine x_sub [2, 3, 4, 5, 6, 7] rfl ?_
        exact hJ11 _ h hcont hne
      · rw [if_neg hc13] at h
        refine x_iconst C (v := 0) dL_law_2282 (by decide) ?_
        cases h
        exact absurd rfl (hne ())
  · rw [if_neg hc10] at h
    refine x_iconst C (v := 0) dL_law_2265 (by decide) ?_
    cases h
    exact absurd rfl (hne ())
def jL_law35_2340 (q1 : Int32 × Mem × Mem) (q2 : Int32 × Mem) : Option ((Mem × Mem × Mem) ⊕ Unit) := (some (.inl (q1.2.1, q2.2, q1.2.2)))
def fL_law35 (xs : Nat → Int32) (L : Nat) (i : Int32) (σ : Mem) (μ : Mem) (ω : Mem) : Option ((Mem × Mem × Mem) ⊕ Unit) := (gd (inb (i + (1 : Int32)) L) ((fL_cancel_LOut (xs (i + (1 : Int32)).toNatClampNeg) σ ω).bind fun q1 => ((fX6_cancel (xs (i + (1 : Int32)).toNatClampNeg) μ).bind fun q2 => ((fX6_thrown q2.2).bind fun q3 => (if q3 = q1.1 then (if ¬ q1.1 = 0 then (jL_law35_2340 q1 q2) else (if (lg_cmp (rJ q1.2.2 20 0 (0 : Int32).toNatClampNeg) q2.1.toInt64) = 0 then (jL_law35_2340 q1 q2) else (some (.inr ())))) else (some (.inr ())))))))
set_option maxHeartbeats 4000000 in
set_option maxRecDepth 100000 in
theorem okL_law35 {p : Program} {l : Launch} {e : Env} {R : Room} {s : State} {m : MethodId} {args : Array Value} {below : List Frame} {meth : Method} {c : Code} {cy : Nat → ClassId} {D : va_G} {B : Nat} {ek : EK} {Q : State → Prop} (C : Cx p s m args c 9 cy D B ek "HostelBedsLaw" cL_law) (hlf : l.stackTraces = false) (h9 : ¬ cy 9 = 0) (hR9 : R = room_1) {b L : Nat} {xs : Nat → Int32} (hX : va_X b L xs s s.heap) (hbl : b < s.heap.size) (hbA : ¬ aB B b) (nc ns : Nat) (hnc : nc + 8 ≤ R.cells) (hns : ns + 48 ≤ R.slots) (i : Int32) (σ μ ω : Mem) (r9 : (Mem × Mem × Mem) ⊕ Unit) (h : fL_law35 xs L i σ μ ω = some r9) (hcont : ∀ q9, r9 = .inl q9 → ∀ nc2 ns2 : Nat, nc2 ≤ nc + 8 → ns2 ≤ ns + 48 → X p l e R s m args below meth c 9 cy D B nc2 ns2 Q 2861 [(0, .ref b), (1, .ref (B + oHB)), (2, .ref (B + oMd)), (3, .ref (B + oLOut)), (4, .ref (B + oLOutD)), (5, .int i)] [] q9.1 q9.2.1 q9.2.2) (hne : ∀ u, r9 ≠ .inr u) : X p l e R s m args below meth c 9 cy D B nc ns Q 2287 [(0, .ref b), (1, .ref (B + oHB)), (2, .ref (B + oMd)), (3, .ref (B + oLOut)), (4, .ref (B + oLOutD)), (5, .int i)] [] σ μ ω := by
  unfold fL_law35 at h
  refine x_aload_n C dL_law_2287 rfl 1 rfl ?_
  refine x_aload_n C dL_law_2288 rfl 0 rfl ?_
  refine x_iload C dL_law_2289 5 rfl ?_
  refine x_iconst C (v := 1) dL_law_2291 (by decide) ?_
  refine x_iadd C dL_law_2292 ?_
  obtain ⟨hg1, h⟩ := gd_some h
  refine x_sld C hX hbl hbA hg1 dL_law_2293 ?_
  refine x_aload_n C dL_law_2294 rfl 3 rfl ?_
  obtain ⟨q1, hk2, h⟩ := Option.bind_eq_some_iff.mp h
  refine x_callSW C (As := [.ref (B + oHB), .int (xs (i + (1 : Int32)).toNatClampNeg), .ref (B + oLOut)]) (rest := []) (cells2 := (nc + 2)) (slots2 := (ns + 12)) (lw_g_mk tw_1035 rfl) (okL_cancel_LOut l hlf cy D B ek h9 (xs (i + (1 : Int32)).toNatClampNeg) σ μ ω _ hk2) rfl rfl (by rw [hR9]; decide) (lw_g_mk tw_1036 rfl) (lw_g_mk tw_0 rfl) (by decide) rfl (lw_g_mk tw_1034 rfl) rfl (Nat.le_of_ble_eq_true rfl) dL_law_2295 ⟨by omega, by omega⟩ rfl rfl ?_
  refine x_istore C [(6, .int q1.1), (0, .ref b), (1, .ref (B + oHB)), (2, .ref (B + oMd)), (3, .ref (B + oLOut)), (4, .ref (B + oLOutD)), (5, .int i)] dL_law_2298 (by decide) rfl ?_
  refine x_aload_n C dL_law_2300 rfl 3 rfl ?_
  refine x_aload_n C dL_law_2301 rfl 1 rfl ?_
  refine x_iload C dL_law_2302 6 rfl ?_
  refine x_iconst C (v := 1) dL_law_2304 (by decide) ?_
  refine x_iadd C dL_law_2305 ?_
  refine x_sld C hX hbl hbA hg1 dL_law_2306 ?_
  obtain ⟨q2, hk3, h⟩ := Option.bind_eq_some_iff.mp h
  refine x_callV C (As := [.int (xs (i + (1 : Int32)).toNatClampNeg)]) (rest := []) (lw_g_mk tw_1678 rfl) (lw_g_mk tw_1679 rfl) (c_Md) (C1 := "HostelBedsModel") (T := TX6) (N := 27) (ci := 6) rfl (okX6_cancel l cy D B ek (xs (i + (1 : Int32)).toNatClampNeg) q1.2.1 μ q1.2.2 _ hk3) rfl rfl (by rw [hR9]; decide) (lw_g_mk tw_1680 rfl) (lw_g_mk tw_7 rfl) (by decide) rfl (lw_g_mk tw_1677 rfl) rfl (Nat.le_of_ble_eq_true rfl) dL_law_2307 ⟨by omega, by omega⟩ ?_
  refine x_istore C [(7, .int q2.1), (6, .int q1.1), (0, .ref b), (1, .ref (B + oHB)), (2, .ref (B + oMd)), (3, .ref (B + oLOut)), (4, .ref (B + oLOutD)), (5, .int i)] dL_law_2310 (by decide) rfl ?_
  refine x_aload_n C dL_law_2312 rfl 4 rfl ?_
  obtain ⟨q3, hk4, h⟩ := Option.bind_eq_some_iff.mp h
  refine x_callV C (As := []) (rest := []) (lw_g_mk tw_1215 rfl) (lw_g_mk tw_1216 rfl) (c_Md) (C1 := "HostelBedsModel") (T := TX6) (N := 27) (ci := 6) rfl (okX6_thrown l cy D B ek q1.2.1 q2.2 q1.2.2 _ hk4) rfl rfl (by rw [hR9]; decide) (lw_g_mk tw_1217 rfl) (lw_g_mk tw_7 rfl) (by decide) rfl (lw_g_mk tw_1214 rfl) rfl (Nat.le_of_ble_eq_true rfl) dL_law_2313 ⟨by omega, by omega⟩ ?_
  refine x_iload C dL_law_2316 1 rfl ?_
  refine x_icmp_eq C (tgt := 2323) dL_law_2318 (by decide) (fun hc5 => ?_) (fun hc5 => ?_)
  · rw [if_pos hc5] at h
    refine x_iload C dL_law_2323 1 rfl ?_
    have hJ6 : ∀ (r9 : (Mem × Mem × Mem) ⊕ Unit), jL_law35_2340 q1 q2 = some r9 → (∀ q9, r9 = .inl q9 → ∀ nc2 ns2 : Nat, nc2 ≤ nc + 8 → ns2 ≤ ns + 48 → X p l e R s m args below meth c 9 cy D B nc2 ns2 Q 2861 [(0, .ref b), (1, .ref (B + oHB)), (2, .ref (B + oMd)), (3, .ref (B + oLOut)), (4, .ref (B + oLOutD)), (5, .int i)] [] q9.1 q9.2.1 q9.2.2) → (∀ u, r9 ≠ .inr u) → X p l e R s m args below meth c 9 cy D B (nc + 2) (ns + 12) Q 2340 [(0, .ref b), (1, .ref (B + oHB)), (2, .ref (B + oMd)), (3, .ref (B + oLOut)), (4, .ref (B + oLOutD)), (5, .int i)] [] q1.2.1 q2.2 q1.2.2 := by
      intro r9 h hcont hne
      unfold jL_law35_2340 at h
      refine x_goto C (tgt := 2861) dL_law_2340 (by decide) ?_
      cases h
      exact hcont _ rfl _ _ (by omega) (by omega)
    refine x_if_ne C (tgt := 2340) dL_law_2325 (by decide) (fun hc7 => ?_) (fun hc7 => ?_)
    · rw [if_pos hc7] at h
      refine x_sub [2, 3, 4, 5, 6, 7] rfl ?_
      exact hJ6 _ h hcont hne
    · rw [if_neg hc7] at h
      refine x_aload_n C dL_law_2328 rfl 5 rfl ?_
      refine x_iconst C (v := 0) dL_law_2329 (by decide) ?_
      refine x_lald C _ (c_LOut h9) (by decide : inb (0 : Int32) 1) dL_law_2330 ?_
      refine x_iload C dL_law_2331 0 rfl ?_
      refine x_i2l C dL_law_2333 ?_
      refine x_lcmp C dL_law_2334 ?_
      refine x_if_eq C (tgt := 2340) dL_law_2335 (by decide) (fun hc8 => ?_) (fun hc8 => ?_)
      · rw [if_pos hc8] at h
        refine x_sub [2, 3, 4, 5, 6, 7] rfl ?_
        exact hJ6 _ h hcont hne
      · rw [if_neg hc8] at h
        refine x_iconst C (v := 0) dL_law_2338 (by decide) ?_
        cases h
        exact absurd rfl (hne ())
  · rw [if_neg hc5] at h
    refine x_iconst C (v := 0) dL_law_2321 (by decide) ?_
    cases h
    exact absurd rfl (hne ())
def jL_law36_2431 (q2 : Int32 × Mem × Mem) (q4 : Int32 × Mem) : Option ((Mem × Mem × Mem) ⊕ Unit) := (some (.inl (q2.2.1, q4.2, q2.2.2)))
def jL_law36_2425 (q2 : Int32 × Mem × Mem) (q4 : Int32 × Mem) (t6 : Int64) : Option ((Mem × Mem × Mem) ⊕ Unit) := (if (lg_cmp (rJ q2.2.2 20 0 (0 : Int32).toNatClampNeg) t6) = 0 then (jL_law36_2431 q2 q4) else (some (.inr ())))
def jL_law36_2391 (xs : Nat → Int32) (i : Int32) (μ : Mem) (q2 : Int32 × Mem × Mem) (t3 : Int32) : Option ((Mem × Mem × Mem) ⊕ Unit) := ((fX6_setAbsent (xs (i + (1 : Int32)).toNatClampNeg) t3 μ).bind fun q4 => ((fX6_thrown q4.2).bind fun q5 => (if q5 = q2.1 then (if ¬ q2.1 = 0 then (jL_law36_2431 q2 q4) else (if q4.1 = 0 then (jL_law36_2425 q2 q4 (0 : Int64)) else (jL_law36_2425 q2 q4 (1 : Int64)))) else (some (.inr ())))))
def jL_law36_2364 (xs : Nat → Int32) (i : Int32) (σ : Mem) (ω : Mem) (μ : Mem) (t1 : Int32) : Option ((Mem × Mem × Mem) ⊕ Unit) := ((fL_setAbsent_LOut (xs (i + (1 : Int32)).toNatClampNeg) t1 σ ω).bind fun q2 => (if (xs (i + (2 : Int32)).toNatClampNeg) = 0 then (jL_law36_2391 xs i μ q2 (0 : Int32)) else (jL_law36_2391 xs i μ q2 (1 : Int32))))
def fL_law36 (xs : Nat → Int32) (L : Nat) (i : Int32) (σ : Mem) (μ : Mem) (ω : Mem) : Option ((Mem × Mem × Mem) ⊕ Unit) := (gd (inb (i + (1 : Int32)) L) (gd (inb (i + (2 : Int32)) L) (if (xs (i + (2 : Int32)).toNatClampNeg) = 0 then (jL_law36_2364 xs i σ ω μ (0 : Int32)) else (jL_law36_2364 xs i σ ω μ (1 : Int32)))))
set_option maxHeartbeats 4000000 in
set_option maxRecDepth 100000 in
theorem okL_law36 {p : Program} {l : Launch} {e : Env} {R : Room} {s : State} {m : MethodId} {args : Array Value} {below : List Frame} {meth : Method} {c : Code} {cy : Nat → ClassId} {D : va_G} {B : Nat} {ek : EK} {Q : State → Prop} (C : Cx p s m args c 9 cy D B ek "HostelBedsLaw" cL_law) (hlf : l.stackTraces = false) (h9 : ¬ cy 9 = 0) (hR9 : R = room_1) {b L : Nat} {xs : Nat → Int32} (hX : va_X b L xs s s.heap) (hbl : b < s.heap.size) (hbA : ¬ aB B b) (nc ns : Nat) (hnc : nc + 8 ≤ R.cells) (hns : ns + 48 ≤ R.slots) (i : Int32) (σ μ ω : Mem) (r9 : (Mem × Mem × Mem) ⊕ Unit) (h : fL_law36 xs L i σ μ ω = some r9) (hcont : ∀ q9, r9 = .inl q9 → ∀ nc2 ns2 : Nat, nc2 ≤ nc + 8 → ns2 ≤ ns + 48 → X p l e R s m args below meth c 9 cy D B nc2 ns2 Q 2861 [(0, .ref b), (1, .ref (B + oHB)), (2, .ref (B + oMd)), (3, .ref (B + oLOut)), (4, .ref (B + oLOutD)), (5, .int i)] [] q9.1 q9.2.1 q9.2.2) (hne : ∀ u, r9 ≠ .inr u) : X p l e R s m args below meth c 9 cy D B nc ns Q 2343 [(0, .ref b), (1, .ref (B + oHB)), (2, .ref (B + oMd)), (3, .ref (B + oLOut)), (4, .ref (B + oLOutD)), (5, .int i)] [] σ μ ω := by
  unfold fL_law36 at h
  refine x_aload_n C dL_law_2343 rfl 1 rfl ?_
  refine x_aload_n C dL_law_2344 rfl 0 rfl ?_
  refine x_iload C dL_law_2345 5 rfl ?_
  refine x_iconst C (v := 1) dL_law_2347 (by decide) ?_
  refine x_iadd C dL_law_2348 ?_
  obtain ⟨hg1, h⟩ := gd_some h
  refine x_sld C hX hbl hbA hg1 dL_law_2349 ?_
  refine x_aload_n C dL_law_2350 rfl 0 rfl ?_
  refine x_iload C dL_law_2351 5 rfl ?_
  refine x_iconst C (v := 2) dL_law_2353 (by decide) ?_
  refine x_iadd C dL_law_2354 ?_
  obtain ⟨hg2, h⟩ := gd_some h
  refine x_sld C hX hbl hbA hg2 dL_law_2355 ?_
  have hJ14 : ∀ (t1 : Int32) (r9 : (Mem × Mem × Mem) ⊕ Unit), jL_law36_2364 xs i σ ω μ t1 = some r9 → (∀ q9, r9 = .inl q9 → ∀ nc2 ns2 : Nat, nc2 ≤ nc + 8 → ns2 ≤ ns + 48 → X p l e R s m args below meth c 9 cy D B nc2 ns2 Q 2861 [(0, .ref b), (1, .ref (B + oHB)), (2, .ref (B + oMd)), (3, .ref (B + oLOut)), (4, .ref (B + oLOutD)), (5, .int i)] [] q9.1 q9.2.1 q9.2.2) → (∀ u, r9 ≠ .inr u) → X p l e R s m args below meth c 9 cy D B nc ns Q 2364 [(0, .ref b), (1, .ref (B + oHB)), (2, .ref (B + oMd)), (3, .ref (B + oLOut)), (4, .ref (B + oLOutD)), (5, .int i)] [.int t1, .int (xs (i + (1 : Int32)).toNatClampNeg), .ref (B + oHB)] σ μ ω := by
    intro t1 r9 h hcont hne
    unfold jL_law36_2364 at h
    refine x_aload_n C dL_law_2364 rfl 3 rfl ?_
    obtain ⟨q2, hk3, h⟩ := Option.bind_eq_some_iff.mp h
    refine x_callSW C (As := [.ref (B + oHB), .int (xs (i + (1 : Int32)).toNatClampNeg), .int t1, .ref (B + oLOut)]) (rest := []) (cells2 := (nc + 1)) (slots2 := (ns + 6)) (lw_g_mk tw_1044 rfl) (okL_setAbsent_LOut l hlf cy D B ek h9 (xs (i + (1 : Int32)).toNatClampNeg) t1 σ μ ω _ hk3) rfl rfl (by rw [hR9]; decide) (lw_g_mk tw_1045 rfl) (lw_g_mk tw_0 rfl) (by decide) rfl (lw_g_mk tw_1043 rfl) rfl (Nat.le_of_ble_eq_true rfl) dL_law_2365 ⟨by omega, by omega⟩ rfl rfl ?_
    refine x_istore C [(6, .int q2.1), (0, .ref b), (1, .ref (B + oHB)), (2, .ref (B + oMd)), (3, .ref (B + oLOut)), (4, .ref (B + oLOutD)), (5, .int i)] dL_law_2368 (by decide) rfl ?_
    refine x_aload_n C dL_law_2370 rfl 3 rfl ?_
    refine x_aload_n C dL_law_2371 rfl 1 rfl ?_
    refine x_iload C dL_law_2372 6 rfl ?_
    refine x_iconst C (v := 1) dL_law_2374 (by decide) ?_
    refine x_iadd C dL_law_2375 ?_
    refine x_sld C hX hbl hbA hg1 dL_law_2376 ?_
    refine x_aload_n C dL_law_2377 rfl 1 rfl ?_
    refine x_iload C dL_law_2378 6 rfl ?_
    refine x_iconst C (v := 2) dL_law_2380 (by decide) ?_
    refine x_iadd C dL_law_2381 ?_
    refine x_sld C hX hbl hbA hg2 dL_law_2382 ?_
    have hJ12 : ∀ (t3 : Int32) (r9 : (Mem × Mem × Mem) ⊕ Unit), jL_law36_2391 xs i μ q2 t3 = some r9 → (∀ q9, r9 = .inl q9 → ∀ nc2 ns2 : Nat, nc2 ≤ nc + 8 → ns2 ≤ ns + 48 → X p l e R s m args below meth c 9 cy D B nc2 ns2 Q 2861 [(0, .ref b), (1, .ref (B + oHB)), (2, .ref (B + oMd)), (3, .ref (B + oLOut)), (4, .ref (B + oLOutD)), (5, .int i)] [] q9.1 q9.2.1 q9.2.2) → (∀ u, r9 ≠ .inr u) → X p l e R s m args below meth c 9 cy D B (nc + 1) (ns + 6) Q 2391 [(0, .ref b), (1, .ref (B + oHB)), (2, .ref (B + oMd)), (3, .ref (B + oLOut)), (4, .ref (B + oLOutD)), (5, .int i), (6, .int q2.1)] [.int t3, .int (xs (i + (1 : Int32)).toNatClampNeg), .ref (B + oMd)] q2.2.1 μ q2.2.2 := by
      intro t3 r9 h hcont hne
      unfold jL_law36_2391 at h
      obtain ⟨q4, hk4, h⟩ := Option.bind_eq_some_iff.mp h
      refine x_callV C (As := [.int (xs (i + (1 : Int32)).toNatClampNeg), .int t3]) (rest := []) (lw_g_mk tw_1682 rfl) (lw_g_mk tw_1683 rfl) (c_Md) (C1 := "HostelBedsModel") (T := TX6) (N := 27) (ci := 6) rfl (okX6_setAbsent l cy D B ek (xs (i + (1 : Int32)).toNatClampNeg) t3 q2.2.1 μ q2.2.2 _ hk4) rfl rfl (by rw [hR9]; decide) (lw_g_mk tw_1684 rfl) (lw_g_mk tw_7 rfl) (by decide) rfl (lw_g_mk tw_1681 rfl) rfl (Nat.le_of_ble_eq_true rfl) dL_law_2391 ⟨by omega, by omega⟩ ?_
      refine x_istore C [(7, .int q4.1), (0, .ref b), (1, .ref (B + oHB)), (2, .ref (B + oMd)), (3, .ref (B + oLOut)), (4, .ref (B + oLOutD)), (5, .int i), (6, .int q2.1)] dL_law_2394 (by decide) rfl ?_
      refine x_aload_n C dL_law_2396 rfl 3 rfl ?_
      obtain ⟨q5, hk5, h⟩ := Option.bind_eq_some_iff.mp h
      refine x_callV C (As := []) (rest := []) (lw_g_mk tw_1215 rfl) (lw_g_mk tw_1216 rfl) (c_Md) (C1 := "HostelBedsModel") (T := TX6) (N := 27) (ci := 6) rfl (okX6_thrown l cy D B ek q2.2.1 q4.2 q2.2.2 _ hk5) rfl rfl (by rw [hR9]; decide) (lw_g_mk tw_1217 rfl) (lw_g_mk tw_7 rfl) (by decide) rfl (lw_g_mk tw_1214 rfl) rfl (Nat.le_of_ble_eq_true rfl) dL_law_2397 ⟨by omega, by omega⟩ ?_
      refine x_iload C dL_law_2400 7 rfl ?_
      refine x_icmp_eq C (tgt := 2407) dL_law_2402 (by decide) (fun hc6 => ?_) (fun hc6 => ?_)
      · rw [if_pos hc6] at h
        refine x_iload C dL_law_2407 7 rfl ?_
        have hJ7 : ∀ (r9 : (Mem × Mem × Mem) ⊕ Unit), jL_law36_2431 q2 q4 = some r9 → (∀ q9, r9 = .inl q9 → ∀ nc2 ns2 : Nat, nc2 ≤ nc + 8 → ns2 ≤ ns + 48 → X p l e R s m args below meth c 9 cy D B nc2 ns2 Q 2861 [(0, .ref b), (1, .ref (B + oHB)), (2, .ref (B + oMd)), (3, .ref (B + oLOut)), (4, .ref (B + oLOutD)), (5, .int i)] [] q9.1 q9.2.1 q9.2.2) → (∀ u, r9 ≠ .inr u) → X p l e R s m args below meth c 9 cy D B (nc + 1) (ns + 6) Q 2431 [(0, .ref b), (1, .ref (B + oHB)), (2, .ref (B + oMd)), (3, .ref (B + oLOut)), (4, .ref (B + oLOutD)), (5, .int i)] [] q2.2.1 q4.2 q2.2.2 := by
          intro r9 h hcont hne
          unfold jL_law36_2431 at h
          refine x_goto C (tgt := 2861) dL_law_2431 (by decide) ?_
          cases h
          exact hcont _ rfl _ _ (by omega) (by omega)
        refine x_if_ne C (tgt := 2431) dL_law_2409 (by decide) (fun hc8 => ?_) (fun hc8 => ?_)
        · rw [if_pos hc8] at h
          refine x_sub [1, 2, 3, 4, 5, 6] rfl ?_
          exact hJ7 _ h hcont hne
        · rw [if_neg hc8] at h
          refine x_aload_n C dL_law_2412 rfl 4 rfl ?_
          refine x_iconst C (v := 0) dL_law_2413 (by decide) ?_
          refine x_lald C _ (c_LOut h9) (by decide : inb (0 : Int32) 1) dL_law_2414 ?_
          refine x_iload C dL_law_2415 0 rfl ?_
          have hJ10 : ∀ (t6 : Int64) (r9 : (Mem × Mem × Mem) ⊕ Unit), jL_law36_2425 q2 q4 t6 = some r9 → (∀ q9, r9 = .inl q9 → ∀ nc2 ns2 : Nat, nc2 ≤ nc + 8 → ns2 ≤ ns + 48 → X p l e R s m args below meth c 9 cy D B nc2 ns2 Q 2861 [(0, .ref b), (1, .ref (B + oHB)), (2, .ref (B + oMd)), (3, .ref (B + oLOut)), (4, .ref (B + oLOutD)), (5, .int i)] [] q9.1 q9.2.1 q9.2.2) → (∀ u, r9 ≠ .inr u) → X p l e R s m args below meth c 9 cy D B (nc + 1) (ns + 6) Q 2425 [(0, .ref b), (1, .ref (B + oHB)), (2, .ref (B + oMd)), (3, .ref (B + oLOut)), (4, .ref (B + oLOutD)), (5, .int i)] [.long t6, .long (rJ q2.2.2 20 0 (0 : Int32).toNatClampNeg)] q2.2.1 q4.2 q2.2.2 := by
            intro t6 r9 h hcont hne
            unfold jL_law36_2425 at h
            refine x_lcmp C dL_law_2425 ?_
            refine x_if_eq C (tgt := 2431) dL_law_2426 (by decide) (fun hc9 => ?_) (fun hc9 => ?_)
            · rw [if_pos hc9] at h
              exact hJ7 _ h hcont hne
            · rw [if_neg hc9] at h
              refine x_iconst C (v := 0) dL_law_2429 (by decide) ?_
              cases h
              exact absurd rfl (hne ())
          refine x_if_eq C (tgt := 2424) dL_law_2417 (by decide) (fun hc11 => ?_) (fun hc11 => ?_)
          · rw [if_pos hc11] at h
            refine x_lconst C (v := 0) dL_law_2424 (by decide) ?_
            refine x_sub [1, 2, 3, 4, 5, 6] rfl ?_
            exact hJ10 (0 : Int64) _ h hcont hne
          · rw [if_neg hc11] at h
            refine x_lconst C (v := 1) dL_law_2420 (by decide) ?_
            refine x_goto C (tgt := 2425) dL_law_2421 (by decide) ?_
            refine x_sub [1, 2, 3, 4, 5, 6] rfl ?_
            exact hJ10 (1 : Int64) _ h hcont hne
      · rw [if_neg hc6] at h
        refine x_iconst C (v := 0) dL_law_2405 (by decide) ?_
        cases h
        exact absurd rfl (hne ())
    refine x_if_eq C (tgt := 2390) dL_law_2383 (by decide) (fun hc13 => ?_) (fun hc13 => ?_)
    · rw [if_pos hc13] at h
      refine x_iconst C (v := 0) dL_law_2390 (by decide) ?_
      refine x_sub [1, 2, 3, 4, 5, 6, 0] rfl ?_
      exact hJ12 (0 : Int32) _ h hcont hne
    · rw [if_neg hc13] at h
      refine x_iconst C (v := 1) dL_law_2386 (by decide) ?_
      refine x_goto C (tgt := 2391) dL_law_2387 (by decide) ?_
      refine x_sub [1, 2, 3, 4, 5, 6, 0] rfl ?_
      exact hJ12 (1 : Int32) _ h hcont hne
  refine x_if_eq C (tgt := 2363) dL_law_2356 (by decide) (fun hc15 => ?_) (fun hc15 => ?_)
  · rw [if_pos hc15] at h
    refine x_iconst C (v := 0) dL_law_2363 (by decide) ?_
    exact hJ14 (0 : Int32) _ h hcont hne
  · rw [if_neg hc15] at h
    refine x_iconst C (v := 1) dL_law_2359 (by decide) ?_
    refine x_goto C (tgt := 2364) dL_law_2360 (by decide) ?_
    exact hJ14 (1 : Int32) _ h hcont hne
def jL_law37_2522 (q2 : Int32 × Mem × Mem) (q4 : Int32 × Mem) : Option ((Mem × Mem × Mem) ⊕ Unit) := (some (.inl (q2.2.1, q4.2, q2.2.2)))
def jL_law37_2516 (q2 : Int32 × Mem × Mem) (q4 : Int32 × Mem) (t6 : Int64) : Option ((Mem × Mem × Mem) ⊕ Unit) := (if (lg_cmp (rJ q2.2.2 20 0 (0 : Int32).toNatClampNeg) t6) = 0 then (jL_law37_2522 q2 q4) else (some (.inr ())))
def jL_law37_2482 (xs : Nat → Int32) (i : Int32) (μ : Mem) (q2 : Int32 × Mem × Mem) (t3 : Int32) : Option ((Mem × Mem × Mem) ⊕ Unit) := ((fX6_setTogether (xs (i + (1 : Int32)).toNatClampNeg) t3 μ).bind fun q4 => ((fX6_thrown q4.2).bind fun q5 => (if q5 = q2.1 then (if ¬ q2.1 = 0 then (jL_law37_2522 q2 q4) else (if q4.1 = 0 then (jL_law37_2516 q2 q4 (0 : Int64)) else (jL_law37_2516 q2 q4 (1 : Int64)))) else (some (.inr ())))))
def jL_law37_2455 (xs : Nat → Int32) (i : Int32) (σ : Mem) (ω : Mem) (μ : Mem) (t1 : Int32) : Option ((Mem × Mem × Mem) ⊕ Unit) := ((fL_setTogether_LOut (xs (i + (1 : Int32)).toNatClampNeg) t1 σ ω).bind fun q2 => (if (xs (i + (2 : Int32)).toNatClampNeg) = 0 then (jL_law37_2482 xs i μ q2 (0 : Int32)) else (jL_law37_2482 xs i μ q2 (1 : Int32))))
def fL_law37 (xs : Nat → Int32) (L : Nat) (i : Int32) (σ : Mem) (μ : Mem) (ω : Mem) : Option ((Mem × Mem × Mem) ⊕ Unit) := (gd (inb (i + (1 : Int32)) L) (gd (inb (i + (2 : Int32)) L) (if (xs (i + (2 : Int32)).toNatClampNeg) = 0 then (jL_law37_2455 xs i σ ω μ (0 : Int32)) else (jL_law37_2455 xs i σ ω μ (1 : Int32)))))
set_option maxHeartbeats 4000000 in
set_option maxRecDepth 100000 in
theorem okL_law37 {p : Program} {l : Launch} {e : Env} {R : Room} {s : State} {m : MethodId} {args : Array Value} {below : List Frame} {meth : Method} {c : Code} {cy : Nat → ClassId} {D : va_G} {B : Nat} {ek : EK} {Q : State → Prop} (C : Cx p s m args c 9 cy D B ek "HostelBedsLaw" cL_law) (hlf : l.stackTraces = false) (h9 : ¬ cy 9 = 0) (hR9 : R = room_1) {b L : Nat} {xs : Nat → Int32} (hX : va_X b L xs s s.heap) (hbl : b < s.heap.size) (hbA : ¬ aB B b) (nc ns : Nat) (hnc : nc + 8 ≤ R.cells) (hns : ns + 48 ≤ R.slots) (i : Int32) (σ μ ω : Mem) (r9 : (Mem × Mem × Mem) ⊕ Unit) (h : fL_law37 xs L i σ μ ω = some r9) (hcont : ∀ q9, r9 = .inl q9 → ∀ nc2 ns2 : Nat, nc2 ≤ nc + 8 → ns2 ≤ ns + 48 → X p l e R s m args below meth c 9 cy D B nc2 ns2 Q 2861 [(0, .ref b), (1, .ref (B + oHB)), (2, .ref (B + oMd)), (3, .ref (B + oLOut)), (4, .ref (B + oLOutD)), (5, .int i)] [] q9.1 q9.2.1 q9.2.2) (hne : ∀ u, r9 ≠ .inr u) : X p l e R s m args below meth c 9 cy D B nc ns Q 2434 [(0, .ref b), (1, .ref (B + oHB)), (2, .ref (B + oMd)), (3, .ref (B + oLOut)), (4, .ref (B + oLOutD)), (5, .int i)] [] σ μ ω := by
  unfold fL_law37 at h
  refine x_aload_n C dL_law_2434 rfl 1 rfl ?_
  refine x_aload_n C dL_law_2435 rfl 0 rfl ?_
  refine x_iload C dL_law_2436 5 rfl ?_
  refine x_iconst C (v := 1) dL_law_2438 (by decide) ?_
  refine x_iadd C dL_law_2439 ?_
  obtain ⟨hg1, h⟩ := gd_some h
  refine x_sld C hX hbl hbA hg1 dL_law_2440 ?_
  refine x_aload_n C dL_law_2441 rfl 0 rfl ?_
  refine x_iload C dL_law_2442 5 rfl ?_
  refine x_iconst C (v := 2) dL_law_2444 (by decide) ?_
  refine x_iadd C dL_law_2445 ?_
  obtain ⟨hg2, h⟩ := gd_some h
  refine x_sld C hX hbl hbA hg2 dL_law_2446 ?_
  have hJ14 : ∀ (t1 : Int32) (r9 : (Mem × Mem × Mem) ⊕ Unit), jL_law37_2455 xs i σ ω μ t1 = some r9 → (∀ q9, r9 = .inl q9 → ∀ nc2 ns2 : Nat, nc2 ≤ nc + 8 → ns2 ≤ ns + 48 → X p l e R s m args below meth c 9 cy D B nc2 ns2 Q 2861 [(0, .ref b), (1, .ref (B + oHB)), (2, .ref (B + oMd)), (3, .ref (B + oLOut)), (4, .ref (B + oLOutD)), (5, .int i)] [] q9.1 q9.2.1 q9.2.2) → (∀ u, r9 ≠ .inr u) → X p l e R s m args below meth c 9 cy D B nc ns Q 2455 [(0, .ref b), (1, .ref (B + oHB)), (2, .ref (B + oMd)), (3, .ref (B + oLOut)), (4, .ref (B + oLOutD)), (5, .int i)] [.int t1, .int (xs (i + (1 : Int32)).toNatClampNeg), .ref (B + oHB)] σ μ ω := by
    intro t1 r9 h hcont hne
    unfold jL_law37_2455 at h
    refine x_aload_n C dL_law_2455 rfl 3 rfl ?_
    obtain ⟨q2, hk3, h⟩ := Option.bind_eq_some_iff.mp h
    refine x_callSW C (As := [.ref (B + oHB), .int (xs (i + (1 : Int32)).toNatClampNeg), .int t1, .ref (B + oLOut)]) (rest := []) (cells2 := (nc + 1)) (slots2 := (ns + 6)) (lw_g_mk tw_1051 rfl) (okL_setTogether_LOut l hlf cy D B ek h9 (xs (i + (1 : Int32)).toNatClampNeg) t1 σ μ ω _ hk3) rfl rfl (by rw [hR9]; decide) (lw_g_mk tw_1052 rfl) (lw_g_mk tw_0 rfl) (by decide) rfl (lw_g_mk tw_1050 rfl) rfl (Nat.le_of_ble_eq_true rfl) dL_law_2456 ⟨by omega, by omega⟩ rfl rfl ?_
    refine x_istore C [(6, .int q2.1), (0, .ref b), (1, .ref (B + oHB)), (2, .ref (B + oMd)), (3, .ref (B + oLOut)), (4, .ref (B + oLOutD)), (5, .int i)] dL_law_2459 (by decide) rfl ?_
    refine x_aload_n C dL_law_2461 rfl 3 rfl ?_
    refine x_aload_n C dL_law_2462 rfl 1 rfl ?_
    refine x_iload C dL_law_2463 6 rfl ?_
    refine x_iconst C (v := 1) dL_law_2465 (by decide) ?_
    refine x_iadd C dL_law_2466 ?_
    refine x_sld C hX hbl hbA hg1 dL_law_2467 ?_
    refine x_aload_n C dL_law_2468 rfl 1 rfl ?_
    refine x_iload C dL_law_2469 6 rfl ?_
    refine x_iconst C (v := 2) dL_law_2471 (by decide) ?_
    refine x_iadd C dL_law_2472 ?_
    refine x_sld C hX hbl hbA hg2 dL_law_2473 ?_
    have hJ12 : ∀ (t3 : Int32) (r9 : (Mem × Mem × Mem) ⊕ Unit), jL_law37_2482 xs i μ q2 t3 = some r9 → (∀ q9, r9 = .inl q9 → ∀ nc2 ns2 : Nat, nc2 ≤ nc + 8 → ns2 ≤ ns + 48 → X p l e R s m args below meth c 9 cy D B nc2 ns2 Q 2861 [(0, .ref b), (1, .ref (B + oHB)), (2, .ref (B + oMd)), (3, .ref (B + oLOut)), (4, .ref (B + oLOutD)), (5, .int i)] [] q9.1 q9.2.1 q9.2.2) → (∀ u, r9 ≠ .inr u) → X p l e R s m args below meth c 9 cy D B (nc + 1) (ns + 6) Q 2482 [(0, .ref b), (1, .ref (B + oHB)), (2, .ref (B + oMd)), (3, .ref (B + oLOut)), (4, .ref (B + oLOutD)), (5, .int i), (6, .int q2.1)] [.int t3, .int (xs (i + (1 : Int32)).toNatClampNeg), .ref (B + oMd)] q2.2.1 μ q2.2.2 := by
      intro t3 r9 h hcont hne
      unfold jL_law37_2482 at h
      obtain ⟨q4, hk4, h⟩ := Option.bind_eq_some_iff.mp h
      refine x_callV C (As := [.int (xs (i + (1 : Int32)).toNatClampNeg), .int t3]) (rest := []) (lw_g_mk tw_1690 rfl) (lw_g_mk tw_1691 rfl) (c_Md) (C1 := "HostelBedsModel") (T := TX6) (N := 27) (ci := 6) rfl (okX6_setTogether l cy D B ek (xs (i + (1 : Int32)).toNatClampNeg) t3 q2.2.1 μ q2.2.2 _ hk4) rfl rfl (by rw [hR9]; decide) (lw_g_mk tw_1692 rfl) (lw_g_mk tw_7 rfl) (by decide) rfl (lw_g_mk tw_1689 rfl) rfl (Nat.le_of_ble_eq_true rfl) dL_law_2482 ⟨by omega, by omega⟩ ?_
      refine x_istore C [(7, .int q4.1), (0, .ref b), (1, .ref (B + oHB)), (2, .ref (B + oMd)), (3, .ref (B + oLOut)), (4, .ref (B + oLOutD)), (5, .int i), (6, .int q2.1)] dL_law_2485 (by decide) rfl ?_
      refine x_aload_n C dL_law_2487 rfl 3 rfl ?_
      obtain ⟨q5, hk5, h⟩ := Option.bind_eq_some_iff.mp h
      refine x_callV C (As := []) (rest := []) (lw_g_mk tw_1215 rfl) (lw_g_mk tw_1216 rfl) (c_Md) (C1 := "HostelBedsModel") (T := TX6) (N := 27) (ci := 6) rfl (okX6_thrown l cy D B ek q2.2.1 q4.2 q2.2.2 _ hk5) rfl rfl (by rw [hR9]; decide) (lw_g_mk tw_1217 rfl) (lw_g_mk tw_7 rfl) (by decide) rfl (lw_g_mk tw_1214 rfl) rfl (Nat.le_of_ble_eq_true rfl) dL_law_2488 ⟨by omega, by omega⟩ ?_
      refine x_iload C dL_law_2491 7 rfl ?_
      refine x_icmp_eq C (tgt := 2498) dL_law_2493 (by decide) (fun hc6 => ?_) (fun hc6 => ?_)
      · rw [if_pos hc6] at h
        refine x_iload C dL_law_2498 7 rfl ?_
        have hJ7 : ∀ (r9 : (Mem × Mem × Mem) ⊕ Unit), jL_law37_2522 q2 q4 = some r9 → (∀ q9, r9 = .inl q9 → ∀ nc2 ns2 : Nat, nc2 ≤ nc + 8 → ns2 ≤ ns + 48 → X p l e R s m args below meth c 9 cy D B nc2 ns2 Q 2861 [(0, .ref b), (1, .ref (B + oHB)), (2, .ref (B + oMd)), (3, .ref (B + oLOut)), (4, .ref (B + oLOutD)), (5, .int i)] [] q9.1 q9.2.1 q9.2.2) → (∀ u, r9 ≠ .inr u) → X p l e R s m args below meth c 9 cy D B (nc + 1) (ns + 6) Q 2522 [(0, .ref b), (1, .ref (B + oHB)), (2, .ref (B + oMd)), (3, .ref (B + oLOut)), (4, .ref (B + oLOutD)), (5, .int i)] [] q2.2.1 q4.2 q2.2.2 := by
          intro r9 h hcont hne
          unfold jL_law37_2522 at h
          refine x_goto C (tgt := 2861) dL_law_2522 (by decide) ?_
          cases h
          exact hcont _ rfl _ _ (by omega) (by omega)
        refine x_if_ne C (tgt := 2522) dL_law_2500 (by decide) (fun hc8 => ?_) (fun hc8 => ?_)
        · rw [if_pos hc8] at h
          refine x_sub [1, 2, 3, 4, 5, 6] rfl ?_
          exact hJ7 _ h hcont hne
        · rw [if_neg hc8] at h
          refine x_aload_n C dL_law_2503 rfl 4 rfl ?_
          refine x_iconst C (v := 0) dL_law_2504 (by decide) ?_
          refine x_lald C _ (c_LOut h9) (by decide : inb (0 : Int32) 1) dL_law_2505 ?_
          refine x_iload C dL_law_2506 0 rfl ?_
          have hJ10 : ∀ (t6 : Int64) (r9 : (Mem × Mem × Mem) ⊕ Unit), jL_law37_2516 q2 q4 t6 = some r9 → (∀ q9, r9 = .inl q9 → ∀ nc2 ns2 : Nat, nc2 ≤ nc + 8 → ns2 ≤ ns + 48 → X p l e R s m args below meth c 9 cy D B nc2 ns2 Q 2861 [(0, .ref b), (1, .ref (B + oHB)), (2, .ref (B + oMd)), (3, .ref (B + oLOut)), (4, .ref (B + oLOutD)), (5, .int i)] [] q9.1 q9.2.1 q9.2.2) → (∀ u, r9 ≠ .inr u) → X p l e R s m args below meth c 9 cy D B (nc + 1) (ns + 6) Q 2516 [(0, .ref b), (1, .ref (B + oHB)), (2, .ref (B + oMd)), (3, .ref (B + oLOut)), (4, .ref (B + oLOutD)), (5, .int i)] [.long t6, .long (rJ q2.2.2 20 0 (0 : Int32).toNatClampNeg)] q2.2.1 q4.2 q2.2.2 := by
            intro t6 r9 h hcont hne
            unfold jL_law37_2516 at h
            refine x_lcmp C dL_law_2516 ?_
            refine x_if_eq C (tgt := 2522) dL_law_2517 (by decide) (fun hc9 => ?_) (fun hc9 => ?_)
            · rw [if_pos hc9] at h
              exact hJ7 _ h hcont hne
            · rw [if_neg hc9] at h
              refine x_iconst C (v := 0) dL_law_2520 (by decide) ?_
              cases h
              exact absurd rfl (hne ())
          refine x_if_eq C (tgt := 2515) dL_law_2508 (by decide) (fun hc11 => ?_) (fun hc11 => ?_)
          · rw [if_pos hc11] at h
            refine x_lconst C (v := 0) dL_law_2515 (by decide) ?_
            refine x_sub [1, 2, 3, 4, 5, 6] rfl ?_
            exact hJ10 (0 : Int64) _ h hcont hne
          · rw [if_neg hc11] at h
            refine x_lconst C (v := 1) dL_law_2511 (by decide) ?_
            refine x_goto C (tgt := 2516) dL_law_2512 (by decide) ?_
            refine x_sub [1, 2, 3, 4, 5, 6] rfl ?_
            exact hJ10 (1 : Int64) _ h hcont hne
      · rw [if_neg hc6] at h
        refine x_iconst C (v := 0) dL_law_2496 (by decide) ?_
        cases h
        exact absurd rfl (hne ())
    refine x_if_eq C (tgt := 2481) dL_law_2474 (by decide) (fun hc13 => ?_) (fun hc13 => ?_)
    · rw [if_pos hc13] at h
      refine x_iconst C (v := 0) dL_law_2481 (by decide) ?_
      refine x_sub [1, 2, 3, 4, 5, 6, 0] rfl ?_
      exact hJ12 (0 : Int32) _ h hcont hne
    · rw [if_neg hc13] at h
      refine x_iconst C (v := 1) dL_law_2477 (by decide) ?_
      refine x_goto C (tgt := 2482) dL_law_2478 (by decide) ?_
      refine x_sub [1, 2, 3, 4, 5, 6, 0] rfl ?_
      exact hJ12 (1 : Int32) _ h hcont hne
  refine x_if_eq C (tgt := 2454) dL_law_2447 (by decide) (fun hc15 => ?_) (fun hc15 => ?_)
  · rw [if_pos hc15] at h
    refine x_iconst C (v := 0) dL_law_2454 (by decide) ?_
    exact hJ14 (0 : Int32) _ h hcont hne
  · rw [if_neg hc15] at h
    refine x_iconst C (v := 1) dL_law_2450 (by decide) ?_
    refine x_goto C (tgt := 2455) dL_law_2451 (by decide) ?_
    exact hJ14 (1 : Int32) _ h hcont hne
def jL_law38_2578 (q1 : Int32 × Mem × Mem) (q2 : Int32 × Mem) : Option ((Mem × Mem × Mem) ⊕ Unit) := (some (.inl (q1.2.1, q2.2, q1.2.2)))
def fL_law38 (xs : Nat → Int32) (L : Nat) (i : Int32) (σ : Mem) (μ : Mem) (ω : Mem) : Option ((Mem × Mem × Mem) ⊕ Unit) := (gd (inb (i + (1 : Int32)) L) ((fL_setOver_LOut (xs (i + (1 : Int32)).toNatClampNeg) σ ω).bind fun q1 => ((fX6_setOver (xs (i + (1 : Int32)).toNatClampNeg) μ).bind fun q2 => ((fX6_thrown q2.2).bind fun q3 => (if q3 = q1.1 then (if ¬ q1.1 = 0 then (jL_law38_2578 q1 q2) else (if (lg_cmp (rJ q1.2.2 20 0 (0 : Int32).toNatClampNeg) q2.1.toInt64) = 0 then (jL_law38_2578 q1 q2) else (some (.inr ())))) else (some (.inr ())))))))
set_option maxHeartbeats 4000000 in
set_option maxRecDepth 100000 in
theorem okL_law38 {p : Program} {l : Launch} {e : Env} {R : Room} {s : State} {m : MethodId} {args : Array Value} {below : List Frame} {meth : Method} {c : Code} {cy : Nat → ClassId} {D : va_G} {B : Nat} {ek : EK} {Q : State → Prop} (C : Cx p s m args c 9 cy D B ek "HostelBedsLaw" cL_law) (hlf : l.stackTraces = false) (h9 : ¬ cy 9 = 0) (hR9 : R = room_1) {b L : Nat} {xs : Nat → Int32} (hX : va_X b L xs s s.heap) (hbl : b < s.heap.size) (hbA : ¬ aB B b) (nc ns : Nat) (hnc : nc + 8 ≤ R.cells) (hns : ns + 48 ≤ R.slots) (i : Int32) (σ μ ω : Mem) (r9 : (Mem × Mem × Mem) ⊕ Unit) (h : fL_law38 xs L i σ μ ω = some r9) (hcont : ∀ q9, r9 = .inl q9 → ∀ nc2 ns2 : Nat, nc2 ≤ nc + 8 → ns2 ≤ ns + 48 → X p l e R s m args below meth c 9 cy D B nc2 ns2 Q 2861 [(0, .ref b), (1, .ref (B + oHB)), (2, .ref (B + oMd)), (3, .ref (B + oLOut)), (4, .ref (B + oLOutD)), (5, .int i)] [] q9.1 q9.2.1 q9.2.2) (hne : ∀ u, r9 ≠ .inr u) : X p l e R s m args below meth c 9 cy D B nc ns Q 2525 [(0, .ref b), (1, .ref (B + oHB)), (2, .ref (B + oMd)), (3, .ref (B + oLOut)), (4, .ref (B + oLOutD)), (5, .int i)] [] σ μ ω := by
  unfold fL_law38 at h
  refine x_aload_n C dL_law_2525 rfl 1 rfl ?_
  refine x_aload_n C dL_law_2526 rfl 0 rfl ?_
  refine x_iload C dL_law_2527 5 rfl ?_
  refine x_iconst C (v := 1) dL_law_2529 (by decide) ?_
  refine x_iadd C dL_law_2530 ?_
  obtain ⟨hg1, h⟩ := gd_some h
  refine x_sld C hX hbl hbA hg1 dL_law_2531 ?_
  refine x_aload_n C dL_law_2532 rfl 3 rfl ?_
  obtain ⟨q1, hk2, h⟩ := Option.bind_eq_some_iff.mp h
  refine x_callSW C (As := [.ref (B + oHB), .int (xs (i + (1 : Int32)).toNatClampNeg), .ref (B + oLOut)]) (rest := []) (cells2 := (nc + 1)) (slots2 := (ns + 6)) (lw_g_mk tw_1058 rfl) (okL_setOver_LOut l hlf cy D B ek h9 (xs (i + (1 : Int32)).toNatClampNeg) σ μ ω _ hk2) rfl rfl (by rw [hR9]; decide) (lw_g_mk tw_1059 rfl) (lw_g_mk tw_0 rfl) (by decide) rfl (lw_g_mk tw_1057 rfl) rfl (Nat.le_of_ble_eq_true rfl) dL_law_2533 ⟨by omega, by omega⟩ rfl rfl ?_
  refine x_istore C [(6, .int q1.1), (0, .ref b), (1, .ref (B + oHB)), (2, .ref (B + oMd)), (3, .ref (B + oLOut)), (4, .ref (B + oLOutD)), (5, .int i)] dL_law_2536 (by decide) rfl ?_
  refine x_aload_n C dL_law_2538 rfl 3 rfl ?_
  refine x_aload_n C dL_law_2539 rfl 1 rfl ?_
  refine x_iload C dL_law_2540 6 rfl ?_
  refine x_iconst C (v := 1) dL_law_2542 (by decide) ?_
  refine x_iadd C dL_law_2543 ?_
  refine x_sld C hX hbl hbA hg1 dL_law_2544 ?_
  obtain ⟨q2, hk3, h⟩ := Option.bind_eq_some_iff.mp h
  refine x_callV C (As := [.int (xs (i + (1 : Int32)).toNatClampNeg)]) (rest := []) (lw_g_mk tw_1694 rfl) (lw_g_mk tw_1695 rfl) (c_Md) (C1 := "HostelBedsModel") (T := TX6) (N := 27) (ci := 6) rfl (okX6_setOver l cy D B ek (xs (i + (1 : Int32)).toNatClampNeg) q1.2.1 μ q1.2.2 _ hk3) rfl rfl (by rw [hR9]; decide) (lw_g_mk tw_1696 rfl) (lw_g_mk tw_7 rfl) (by decide) rfl (lw_g_mk tw_1693 rfl) rfl (Nat.le_of_ble_eq_true rfl) dL_law_2545 ⟨by omega, by omega⟩ ?_
  refine x_istore C [(7, .int q2.1), (6, .int q1.1), (0, .ref b), (1, .ref (B + oHB)), (2, .ref (B + oMd)), (3, .ref (B + oLOut)), (4, .ref (B + oLOutD)), (5, .int i)] dL_law_2548 (by decide) rfl ?_
  refine x_aload_n C dL_law_2550 rfl 4 rfl ?_
  obtain ⟨q3, hk4, h⟩ := Option.bind_eq_some_iff.mp h
  refine x_callV C (As := []) (rest := []) (lw_g_mk tw_1215 rfl) (lw_g_mk tw_1216 rfl) (c_Md) (C1 := "HostelBedsModel") (T := TX6) (N := 27) (ci := 6) rfl (okX6_thrown l cy D B ek q1.2.1 q2.2 q1.2.2 _ hk4) rfl rfl (by rw [hR9]; decide) (lw_g_mk tw_1217 rfl) (lw_g_mk tw_7 rfl) (by decide) rfl (lw_g_mk tw_1214 rfl) rfl (Nat.le_of_ble_eq_true rfl) dL_law_2551 ⟨by omega, by omega⟩ ?_
  refine x_iload C dL_law_2554 1 rfl ?_
  refine x_icmp_eq C (tgt := 2561) dL_law_2556 (by decide) (fun hc5 => ?_) (fun hc5 => ?_)
  · rw [if_pos hc5] at h
    refine x_iload C dL_law_2561 1 rfl ?_
    have hJ6 : ∀ (r9 : (Mem × Mem × Mem) ⊕ Unit), jL_law38_2578 q1 q2 = some r9 → (∀ q9, r9 = .inl q9 → ∀ nc2 ns2 : Nat, nc2 ≤ nc + 8 → ns2 ≤ ns + 48 → X p l e R s m args below meth c 9 cy D B nc2 ns2 Q 2861 [(0, .ref b), (1, .ref (B + oHB)), (2, .ref (B + oMd)), (3, .ref (B + oLOut)), (4, .ref (B + oLOutD)), (5, .int i)] [] q9.1 q9.2.1 q9.2.2) → (∀ u, r9 ≠ .inr u) → X p l e R s m args below meth c 9 cy D B (nc + 1) (ns + 6) Q 2578 [(0, .ref b), (1, .ref (B + oHB)), (2, .ref (B + oMd)), (3, .ref (B + oLOut)), (4, .ref (B + oLOutD)), (5, .int i)] [] q1.2.1 q2.2 q1.2.2 := by
      intro r9 h hcont hne
      unfold jL_law38_2578 at h
      refine x_goto C (tgt := 2861) dL_law_2578 (by decide) ?_
      cases h
      exact hcont _ rfl _ _ (by omega) (by omega)
    refine x_if_ne C (tgt := 2578) dL_law_2563 (by decide) (fun hc7 => ?_) (fun hc7 => ?_)
    · rw [if_pos hc7] at h
      refine x_sub [2, 3, 4, 5, 6, 7] rfl ?_
      exact hJ6 _ h hcont hne
    · rw [if_neg hc7] at h
      refine x_aload_n C dL_law_2566 rfl 5 rfl ?_
      refine x_iconst C (v := 0) dL_law_2567 (by decide) ?_
      refine x_lald C _ (c_LOut h9) (by decide : inb (0 : Int32) 1) dL_law_2568 ?_
      refine x_iload C dL_law_2569 0 rfl ?_
      refine x_i2l C dL_law_2571 ?_
      refine x_lcmp C dL_law_2572 ?_
      refine x_if_eq C (tgt := 2578) dL_law_2573 (by decide) (fun hc8 => ?_) (fun hc8 => ?_)
      · rw [if_pos hc8] at h
        refine x_sub [2, 3, 4, 5, 6, 7] rfl ?_
        exact hJ6 _ h hcont hne
      · rw [if_neg hc8] at h
        refine x_iconst C (v := 0) dL_law_2576 (by decide) ?_
        cases h
        exact absurd rfl (hne ())
  · rw [if_neg hc5] at h
    refine x_iconst C (v := 0) dL_law_2559 (by decide) ?_
    cases h
    exact absurd rfl (hne ())
def jL_law39_2634 (q1 : Int32 × Mem × Mem) (q2 : Int32 × Mem) : Option ((Mem × Mem × Mem) ⊕ Unit) := (some (.inl (q1.2.1, q2.2, q1.2.2)))
def fL_law39 (xs : Nat → Int32) (L : Nat) (i : Int32) (σ : Mem) (μ : Mem) (ω : Mem) : Option ((Mem × Mem × Mem) ⊕ Unit) := (gd (inb (i + (1 : Int32)) L) ((fL_setWalk_LOut (xs (i + (1 : Int32)).toNatClampNeg) σ ω).bind fun q1 => ((fX6_setWalk (xs (i + (1 : Int32)).toNatClampNeg) μ).bind fun q2 => ((fX6_thrown q2.2).bind fun q3 => (if q3 = q1.1 then (if ¬ q1.1 = 0 then (jL_law39_2634 q1 q2) else (if (lg_cmp (rJ q1.2.2 20 0 (0 : Int32).toNatClampNeg) q2.1.toInt64) = 0 then (jL_law39_2634 q1 q2) else (some (.inr ())))) else (some (.inr ())))))))
set_option maxHeartbeats 4000000 in
set_option maxRecDepth 100000 in
theorem okL_law39 {p : Program} {l : Launch} {e : Env} {R : Room} {s : State} {m : MethodId} {args : Array Value} {below : List Frame} {meth : Method} {c : Code} {cy : Nat → ClassId} {D : va_G} {B : Nat} {ek : EK} {Q : State → Prop} (C : Cx p s m args c 9 cy D B ek "HostelBedsLaw" cL_law) (hlf : l.stackTraces = false) (h9 : ¬ cy 9 = 0) (hR9 : R = room_1) {b L : Nat} {xs : Nat → Int32} (hX : va_X b L xs s s.heap) (hbl : b < s.heap.size) (hbA : ¬ aB B b) (nc ns : Nat) (hnc : nc + 8 ≤ R.cells) (hns : ns + 48 ≤ R.slots) (i : Int32) (σ μ ω : Mem) (r9 : (Mem × Mem × Mem) ⊕ Unit) (h : fL_law39 xs L i σ μ ω = some r9) (hcont : ∀ q9, r9 = .inl q9 → ∀ nc2 ns2 : Nat, nc2 ≤ nc + 8 → ns2 ≤ ns + 48 → X p l e R s m args below meth c 9 cy D B nc2 ns2 Q 2861 [(0, .ref b), (1, .ref (B + oHB)), (2, .ref (B + oMd)), (3, .ref (B + oLOut)), (4, .ref (B + oLOutD)), (5, .int i)] [] q9.1 q9.2.1 q9.2.2) (hne : ∀ u, r9 ≠ .inr u) : X p l e R s m args below meth c 9 cy D B nc ns Q 2581 [(0, .ref b), (1, .ref (B + oHB)), (2, .ref (B + oMd)), (3, .ref (B + oLOut)), (4, .ref (B + oLOutD)), (5, .int i)] [] σ μ ω := by
  unfold fL_law39 at h
  refine x_aload_n C dL_law_2581 rfl 1 rfl ?_
  refine x_aload_n C dL_law_2582 rfl 0 rfl ?_
  refine x_iload C dL_law_2583 5 rfl ?_
  refine x_iconst C (v := 1) dL_law_2585 (by decide) ?_
  refine x_iadd C dL_law_2586 ?_
  obtain ⟨hg1, h⟩ := gd_some h
  refine x_sld C hX hbl hbA hg1 dL_law_2587 ?_
  refine x_aload_n C dL_law_2588 rfl 3 rfl ?_
  obtain ⟨q1, hk2, h⟩ := Option.bind_eq_some_iff.mp h
  refine x_callSW C (As := [.ref (B + oHB), .int (xs (i + (1 : Int32)).toNatClampNeg), .ref (B + oLOut)]) (rest := []) (cells2 := (nc + 1)) (slots2 := (ns + 6)) (lw_g_mk tw_1065 rfl) (okL_setWalk_LOut l hlf cy D B ek h9 (xs (i + (1 : Int32)).toNatClampNeg) σ μ ω _ hk2) rfl rfl (by rw [hR9]; decide) (lw_g_mk tw_1066 rfl) (lw_g_mk tw_0 rfl) (by decide) rfl (lw_g_mk tw_1064 rfl) rfl (Nat.le_of_ble_eq_true rfl) dL_law_2589 ⟨by omega, by omega⟩ rfl rfl ?_
  refine x_istore C [(6, .int q1.1), (0, .ref b), (1, .ref (B + oHB)), (2, .ref (B + oMd)), (3, .ref (B + oLOut)), (4, .ref (B + oLOutD)), (5, .int i)] dL_law_2592 (by decide) rfl ?_
  refine x_aload_n C dL_law_2594 rfl 3 rfl ?_
  refine x_aload_n C dL_law_2595 rfl 1 rfl ?_
  refine x_iload C dL_law_2596 6 rfl ?_
  refine x_iconst C (v := 1) dL_law_2598 (by decide) ?_
  refine x_iadd C dL_law_2599 ?_
  refine x_sld C hX hbl hbA hg1 dL_law_2600 ?_
  obtain ⟨q2, hk3, h⟩ := Option.bind_eq_some_iff.mp h
  refine x_callV C (As := [.int (xs (i + (1 : Int32)).toNatClampNeg)]) (rest := []) (lw_g_mk tw_1698 rfl) (lw_g_mk tw_1699 rfl) (c_Md) (C1 := "HostelBedsModel") (T := TX6) (N := 27) (ci := 6) rfl (okX6_setWalk l cy D B ek (xs (i + (1 : Int32)).toNatClampNeg) q1.2.1 μ q1.2.2 _ hk3) rfl rfl (by rw [hR9]; decide) (lw_g_mk tw_1700 rfl) (lw_g_mk tw_7 rfl) (by decide) rfl (lw_g_mk tw_1697 rfl) rfl (Nat.le_of_ble_eq_true rfl) dL_law_2601 ⟨by omega, by omega⟩ ?_
  refine x_istore C [(7, .int q2.1), (6, .int q1.1), (0, .ref b), (1, .ref (B + oHB)), (2, .ref (B + oMd)), (3, .ref (B + oLOut)), (4, .ref (B + oLOutD)), (5, .int i)] dL_law_2604 (by decide) rfl ?_
  refine x_aload_n C dL_law_2606 rfl 4 rfl ?_
  obtain ⟨q3, hk4, h⟩ := Option.bind_eq_some_iff.mp h
  refine x_callV C (As := []) (rest := []) (lw_g_mk tw_1215 rfl) (lw_g_mk tw_1216 rfl) (c_Md) (C1 := "HostelBedsModel") (T := TX6) (N := 27) (ci := 6) rfl (okX6_thrown l cy D B ek q1.2.1 q2.2 q1.2.2 _ hk4) rfl rfl (by rw [hR9]; decide) (lw_g_mk tw_1217 rfl) (lw_g_mk tw_7 rfl) (by decide) rfl (lw_g_mk tw_1214 rfl) rfl (Nat.le_of_ble_eq_true rfl) dL_law_2607 ⟨by omega, by omega⟩ ?_
  refine x_iload C dL_law_2610 1 rfl ?_
  refine x_icmp_eq C (tgt := 2617) dL_law_2612 (by decide) (fun hc5 => ?_) (fun hc5 => ?_)
  · rw [if_pos hc5] at h
    refine x_iload C dL_law_2617 1 rfl ?_
    have hJ6 : ∀ (r9 : (Mem × Mem × Mem) ⊕ Unit), jL_law39_2634 q1 q2 = some r9 → (∀ q9, r9 = .inl q9 → ∀ nc2 ns2 : Nat, nc2 ≤ nc + 8 → ns2 ≤ ns + 48 → X p l e R s m args below meth c 9 cy D B nc2 ns2 Q 2861 [(0, .ref b), (1, .ref (B + oHB)), (2, .ref (B + oMd)), (3, .ref (B + oLOut)), (4, .ref (B + oLOutD)), (5, .int i)] [] q9.1 q9.2.1 q9.2.2) → (∀ u, r9 ≠ .inr u) → X p l e R s m args below meth c 9 cy D B (nc + 1) (ns + 6) Q 2634 [(0, .ref b), (1, .ref (B + oHB)), (2, .ref (B + oMd)), (3, .ref (B + oLOut)), (4, .ref (B + oLOutD)), (5, .int i)] [] q1.2.1 q2.2 q1.2.2 := by
      intro r9 h hcont hne
      unfold jL_law39_2634 at h
      refine x_goto C (tgt := 2861) dL_law_2634 (by decide) ?_
      cases h
      exact hcont _ rfl _ _ (by omega) (by omega)
    refine x_if_ne C (tgt := 2634) dL_law_2619 (by decide) (fun hc7 => ?_) (fun hc7 => ?_)
    · rw [if_pos hc7] at h
      refine x_sub [2, 3, 4, 5, 6, 7] rfl ?_
      exact hJ6 _ h hcont hne
    · rw [if_neg hc7] at h
      refine x_aload_n C dL_law_2622 rfl 5 rfl ?_
      refine x_iconst C (v := 0) dL_law_2623 (by decide) ?_
      refine x_lald C _ (c_LOut h9) (by decide : inb (0 : Int32) 1) dL_law_2624 ?_
      refine x_iload C dL_law_2625 0 rfl ?_
      refine x_i2l C dL_law_2627 ?_
      refine x_lcmp C dL_law_2628 ?_
      refine x_if_eq C (tgt := 2634) dL_law_2629 (by decide) (fun hc8 => ?_) (fun hc8 => ?_)
      · rw [if_pos hc8] at h
        refine x_sub [2, 3, 4, 5, 6, 7] rfl ?_
        exact hJ6 _ h hcont hne
      · rw [if_neg hc8] at h
        refine x_iconst C (v := 0) dL_law_2632 (by decide) ?_
        cases h
        exact absurd rfl (hne ())
  · rw [if_neg hc5] at h
    refine x_iconst C (v := 0) dL_law_2615 (by decide) ?_
    cases h
    exact absurd rfl (hne ())
def jL_law40_2702 (q1 : Int32 × Mem × Mem) (q2 : Int32 × Mem) : Option ((Mem × Mem × Mem) ⊕ Unit) := (some (.inl (q1.2.1, q2.2, q1.2.2)))
def fL_law40 (xs : Nat → Int32) (L : Nat) (i : Int32) (σ : Mem) (μ : Mem) (ω : Mem) : Option ((Mem × Mem × Mem) ⊕ Unit) := (gd (inb (i + (1 : Int32)) L) (gd (inb (i + (2 : Int32)) L) ((fL_setPrice_LOut (xs (i + (1 : Int32)).toNatClampNeg) (xs (i + (2 : Int32)).toNatClampNeg) σ ω).bind fun q1 => ((fX6_setPrice (xs (i + (1 : Int32)).toNatClampNeg) (xs (i + (2 : Int32)).toNatClampNeg) μ).bind fun q2 => ((fX6_thrown q2.2).bind fun q3 => (if q3 = q1.1 then (if ¬ q1.1 = 0 then (jL_law40_2702 q1 q2) else (if (lg_cmp (rJ q1.2.2 20 0 (0 : Int32).toNatClampNeg) q2.1.toInt64) = 0 then (jL_law40_2702 q1 q2) else (some (.inr ())))) else (some (.inr ()))))))))
set_option maxHeartbeats 4000000 in
set_option maxRecDepth 100000 in
theorem okL_law40 {p : Program} {l : Launch} {e : Env} {R : Room} {s : State} {m : MethodId} {args : Array Value} {below : List Frame} {meth : Method} {c : Code} {cy : Nat → ClassId} {D : va_G} {B : Nat} {ek : EK} {Q : State → Prop} (C : Cx p s m args c 9 cy D B ek "HostelBedsLaw" cL_law) (hlf : l.stackTraces = false) (h9 : ¬ cy 9 = 0) (hR9 : R = room_1) {b L : Nat} {xs : Nat → Int32} (hX : va_X b L xs s s.heap) (hbl : b < s.heap.size) (hbA : ¬ aB B b) (nc ns : Nat) (hnc : nc + 8 ≤ R.cells) (hns : ns + 48 ≤ R.slots) (i : Int32) (σ μ ω : Mem) (r9 : (Mem × Mem × Mem) ⊕ Unit) (h : fL_law40 xs L i σ μ ω = some r9) (hcont : ∀ q9, r9 = .inl q9 → ∀ nc2 ns2 : Nat, nc2 ≤ nc + 8 → ns2 ≤ ns + 48 → X p l e R s m args below meth c 9 cy D B nc2 ns2 Q 2861 [(0, .ref b), (1, .ref (B + oHB)), (2, .ref (B + oMd)), (3, .ref (B + oLOut)), (4, .ref (B + oLOutD)), (5, .int i)] [] q9.1 q9.2.1 q9.2.2) (hne : ∀ u, r9 ≠ .inr u) : X p l e R s m args below meth c 9 cy D B nc ns Q 2637 [(0, .ref b), (1, .ref (B + oHB)), (2, .ref (B + oMd)), (3, .ref (B + oLOut)), (4, .ref (B + oLOutD)), (5, .int i)] [] σ μ ω := by
  unfold fL_law40 at h
  refine x_aload_n C dL_law_2637 rfl 1 rfl ?_
  refine x_aload_n C dL_law_2638 rfl 0 rfl ?_
  refine x_iload C dL_law_2639 5 rfl ?_
  refine x_iconst C (v := 1) dL_law_2641 (by decide) ?_
  refine x_iadd C dL_law_2642 ?_
  obtain ⟨hg1, h⟩ := gd_some h
  refine x_sld C hX hbl hbA hg1 dL_law_2643 ?_
  refine x_aload_n C dL_law_2644 rfl 0 rfl ?_
  refine x_iload C dL_law_2645 5 rfl ?_
  refine x_iconst C (v := 2) dL_law_2647 (by decide) ?_
  refine x_iadd C dL_law_2648 ?_
  obtain ⟨hg2, h⟩ := gd_some h
  refine x_sld C hX hbl hbA hg2 dL_law_2649 ?_
  refine x_aload_n C dL_law_2650 rfl 3 rfl ?_
  obtain ⟨q1, hk3, h⟩ := Option.bind_eq_some_iff.mp h
  refine x_callSW C (As := [.ref (B + oHB), .int (xs (i + (1 : Int32)).toNatClampNeg), .int (xs (i + (2 : Int32)).toNatClampNeg), .ref (B + oLOut)]) (rest := []) (cells2 := (nc + 2)) (slots2 := (ns + 12)) (lw_g_mk tw_1072 rfl) (okL_setPrice_LOut l hlf cy D B ek h9 (xs (i + (1 : Int32)).toNatClampNeg) (xs (i + (2 : Int32)).toNatClampNeg) σ μ ω _ hk3) rfl rfl (by rw [hR9]; decide) (lw_g_mk tw_1073 rfl) (lw_g_mk tw_0 rfl) (by decide) rfl (lw_g_mk tw_1071 rfl) rfl (Nat.le_of_ble_eq_true rfl) dL_law_2651 ⟨by omega, by omega⟩ rfl rfl ?_
  refine x_istore C [(6, .int q1.1), (0, .ref b), (1, .ref (B + oHB)), (2, .ref (B + oMd)), (3, .ref (B + oLOut)), (4, .ref (B + oLOutD)), (5, .int i)] dL_law_2654 (by decide) rfl ?_
  refine x_aload_n C dL_law_2656 rfl 3 rfl ?_
  refine x_aload_n C dL_law_2657 rfl 1 rfl ?_
  refine x_iload C dL_law_2658 6 rfl ?_
  refine x_iconst C (v := 1) dL_law_2660 (by decide) ?_
  refine x_iadd C dL_law_2661 ?_
  refine x_sld C hX hbl hbA hg1 dL_law_2662 ?_
  refine x_aload_n C dL_law_2663 rfl 1 rfl ?_
  refine x_iload C dL_law_2664 6 rfl ?_
  refine x_iconst C (v := 2) dL_law_2666 (by decide) ?_
  refine x_iadd C dL_law_2667 ?_
  refine x_sld C hX hbl hbA hg2 dL_law_2668 ?_
  obtain ⟨q2, hk4, h⟩ := Option.bind_eq_some_iff.mp h
  refine x_callV C (As := [.int (xs (i + (1 : Int32)).toNatClampNeg), .int (xs (i + (2 : Int32)).toNatClampNeg)]) (rest := []) (lw_g_mk tw_1702 rfl) (lw_g_mk tw_1703 rfl) (c_Md) (C1 := "HostelBedsModel") (T := TX6) (N := 27) (ci := 6) rfl (okX6_setPrice l cy D B ek (xs (i + (1 : Int32)).toNatClampNeg) (xs (i + (2 : Int32)).toNatClampNeg) q1.2.1 μ q1.2.2 _ hk4) rfl rfl (by rw [hR9]; decide) (lw_g_mk tw_1704 rfl) (lw_g_mk tw_7 rfl) (by decide) rfl (lw_g_mk tw_1701 rfl) rfl (Nat.le_of_ble_eq_true rfl) dL_law_2669 ⟨by omega, by omega⟩ ?_
  refine x_istore C [(7, .int q2.1), (6, .int q1.1), (0, .ref b), (1, .ref (B + oHB)), (2, .ref (B + oMd)), (3, .ref (B + oLOut)), (4, .ref (B + oLOutD)), (5, .int i)] dL_law_2672 (by decide) rfl ?_
  refine x_aload_n C dL_law_2674 rfl 4 rfl ?_
  obtain ⟨q3, hk5, h⟩ := Option.bind_eq_some_iff.mp h
  refine x_callV C (As := []) (rest := []) (lw_g_mk tw_1215 rfl) (lw_g_mk tw_1216 rfl) (c_Md) (C1 := "HostelBedsModel") (T := TX6) (N := 27) (ci := 6) rfl (okX6_thrown l cy D B ek q1.2.1 q2.2 q1.2.2 _ hk5) rfl rfl (by rw [hR9]; decide) (lw_g_mk tw_1217 rfl) (lw_g_mk tw_7 rfl) (by decide) rfl (lw_g_mk tw_1214 rfl) rfl (Nat.le_of_ble_eq_true rfl) dL_law_2675 ⟨by omega, by omega⟩ ?_
  refine x_iload C dL_law_2678 1 rfl ?_
  refine x_icmp_eq C (tgt := 2685) dL_law_2680 (by decide) (fun hc6 => ?_) (fun hc6 => ?_)
  · rw [if_pos hc6] at h
    refine x_iload C dL_law_2685 1 rfl ?_
    have hJ7 : ∀ (r9 : (Mem × Mem × Mem) ⊕ Unit), jL_law40_2702 q1 q2 = some r9 → (∀ q9, r9 = .inl q9 → ∀ nc2 ns2 : Nat, nc2 ≤ nc + 8 → ns2 ≤ ns + 48 → X p l e R s m args below meth c 9 cy D B nc2 ns2 Q 2861 [(0, .ref b), (1, .ref (B + oHB)), (2, .ref (B + oMd)), (3, .ref (B + oLOut)), (4, .ref (B + oLOutD)), (5, .int i)] [] q9.1 q9.2.1 q9.2.2) → (∀ u, r9 ≠ .inr u) → X p l e R s m args below meth c 9 cy D B (nc + 2) (ns + 12) Q 2702 [(0, .ref b), (1, .ref (B + oHB)), (2, .ref (B + oMd)), (3, .ref (B + oLOut)), (4, .ref (B + oLOutD)), (5, .int i)] [] q1.2.1 q2.2 q1.2.2 := by
      intro r9 h hcont hne
      unfold jL_law40_2702 at h
      refine x_goto C (tgt := 2861) dL_law_2702 (by decide) ?_
      cases h
      exact hcont _ rfl _ _ (by omega) (by omega)
    refine x_if_ne C (tgt := 2702) dL_law_2687 (by decide) (fun hc8 => ?_) (fun hc8 => ?_)
    · rw [if_pos hc8] at h
      refine x_sub [2, 3, 4, 5, 6, 7] rfl ?_
      exact hJ7 _ h hcont hne
    · rw [if_neg hc8] at h
      refine x_aload_n C dL_law_2690 rfl 5 rfl ?_
      refine x_iconst C (v := 0) dL_law_2691 (by decide) ?_
      refine x_lald C _ (c_LOut h9) (by decide : inb (0 : Int32) 1) dL_law_2692 ?_
      refine x_iload C dL_law_2693 0 rfl ?_
      refine x_i2l C dL_law_2695 ?_
      refine x_lcmp C dL_law_2696 ?_
      refine x_if_eq C (tgt := 2702) dL_law_2697 (by decide) (fun hc9 => ?_) (fun hc9 => ?_)
      · rw [if_pos hc9] at h
        refine x_sub [2, 3, 4, 5, 6, 7] rfl ?_
        exact hJ7 _ h hcont hne
      · rw [if_neg hc9] at h
        refine x_iconst C (v := 0) dL_law_2700 (by decide) ?_
        cases h
        exact absurd rfl (hne ())
  · rw [if_neg hc6] at h
    refine x_iconst C (v := 0) dL_law_2683 (by decide) ?_
    cases h
    exact absurd rfl (hne ())
def jL_law41_2746 (q1 : Int32 × Mem × Mem) (q2 : Int32 × Mem) : Option ((Mem × Mem × Mem) ⊕ Unit) := (some (.inl (q1.2.1, q2.2, q1.2.2)))
def fL_law41 (xs : Nat → Int32) (L : Nat) (i : Int32) (σ : Mem) (μ : Mem) (ω : Mem) : Option ((Mem × Mem × Mem) ⊕ Unit) := ((fL_undo_LOut σ ω).bind fun q1 => ((fX6_undo μ).bind fun q2 => ((fX6_thrown q2.2).bind fun q3 => (if q3 = q1.1 then (if ¬ q1.1 = 0 then (jL_law41_2746 q1 q2) else (if (lg_cmp (rJ q1.2.2 20 0 (0 : Int32).toNatClampNeg) q2.1.toInt64) = 0 then (jL_law41_2746 q1 q2) else (some (.inr ())))) else (some (.inr ()))))))
set_option maxHeartbeats 4000000 in
set_option maxRecDepth 100000 in
theorem okL_law41 {p : Program} {l : Launch} {e : Env} {R : Room} {s : State} {m : MethodId} {args : Array Value} {below : List Frame} {meth : Method} {c : Code} {cy : Nat → ClassId} {D : va_G} {B : Nat} {ek : EK} {Q : State → Prop} (C : Cx p s m args c 9 cy D B ek "HostelBedsLaw" cL_law) (hlf : l.stackTraces = false) (h9 : ¬ cy 9 = 0) (hR9 : R = room_1) {b L : Nat} {xs : Nat → Int32} (hX : va_X b L xs s s.heap) (hbl : b < s.heap.size) (hbA : ¬ aB B b) (nc ns : Nat) (hnc : nc + 8 ≤ R.cells) (hns : ns + 48 ≤ R.slots) (i : Int32) (σ μ ω : Mem) (r9 : (Mem × Mem × Mem) ⊕ Unit) (h : fL_law41 xs L i σ μ ω = some r9) (hcont : ∀ q9, r9 = .inl q9 → ∀ nc2 ns2 : Nat, nc2 ≤ nc + 8 → ns2 ≤ ns + 48 → X p l e R s m args below meth c 9 cy D B nc2 ns2 Q 2861 [(0, .ref b), (1, .ref (B + oHB)), (2, .ref (B + oMd)), (3, .ref (B + oLOut)), (4, .ref (B + oLOutD)), (5, .int i)] [] q9.1 q9.2.1 q9.2.2) (hne : ∀ u, r9 ≠ .inr u) : X p l e R s m args below meth c 9 cy D B nc ns Q 2705 [(0, .ref b), (1, .ref (B + oHB)), (2, .ref (B + oMd)), (3, .ref (B + oLOut)), (4, .ref (B + oLOutD)), (5, .int i)] [] σ μ ω := by
  unfold fL_law41 at h
  refine x_aload_n C dL_law_2705 rfl 1 rfl ?_
  refine x_aload_n C dL_law_2706 rfl 3 rfl ?_
  obtain ⟨q1, hk1, h⟩ := Option.bind_eq_some_iff.mp h
  refine x_callSW C (As := [.ref (B + oHB), .ref (B + oLOut)]) (rest := []) (cells2 := (nc + 1)) (slots2 := (ns + 6)) (lw_g_mk tw_1079 rfl) (okL_undo_LOut l hlf cy D B ek h9 σ μ ω _ hk1) rfl rfl (by rw [hR9]; decide) (lw_g_mk tw_1080 rfl) (lw_g_mk tw_0 rfl) (by decide) rfl (lw_g_mk tw_1078 rfl) rfl (Nat.le_of_ble_eq_true rfl) dL_law_2707 ⟨by omega, by omega⟩ rfl rfl ?_
  refine x_istore C [(6, .int q1.1), (0, .ref b), (1, .ref (B + oHB)), (2, .ref (B + oMd)), (3, .ref (B + oLOut)), (4, .ref (B + oLOutD)), (5, .int i)] dL_law_2710 (by decide) rfl ?_
  refine x_aload_n C dL_law_2712 rfl 3 rfl ?_
  obtain ⟨q2, hk2, h⟩ := Option.bind_eq_some_iff.mp h
  refine x_callV C (As := []) (rest := []) (lw_g_mk tw_1662 rfl) (lw_g_mk tw_1663 rfl) (c_Md) (C1 := "HostelBedsModel") (T := TX6) (N := 27) (ci := 6) rfl (okX6_undo l cy D B ek q1.2.1 μ q1.2.2 _ hk2) rfl rfl (by rw [hR9]; decide) (lw_g_mk tw_1664 rfl) (lw_g_mk tw_7 rfl) (by decide) rfl (lw_g_mk tw_1661 rfl) rfl (Nat.le_of_ble_eq_true rfl) dL_law_2713 ⟨by omega, by omega⟩ ?_
  refine x_istore C [(7, .int q2.1), (6, .int q1.1), (0, .ref b), (1, .ref (B + oHB)), (2, .ref (B + oMd)), (3, .ref (B + oLOut)), (4, .ref (B + oLOutD)), (5, .int i)] dL_law_2716 (by decide) rfl ?_
  refine x_aload_n C dL_law_2718 rfl 4 rfl ?_
  obtain ⟨q3, hk3, h⟩ := Option.bind_eq_some_iff.mp h
  refine x_callV C (As := []) (rest := []) (lw_g_mk tw_1215 rfl) (lw_g_mk tw_1216 rfl) (c_Md) (C1 := "HostelBedsModel") (T := TX6) (N := 27) (ci := 6) rfl (okX6_thrown l cy D B ek q1.2.1 q2.2 q1.2.2 _ hk3) rfl rfl (by rw [hR9]; decide) (lw_g_mk tw_1217 rfl) (lw_g_mk tw_7 rfl) (by decide) rfl (lw_g_mk tw_1214 rfl) rfl (Nat.le_of_ble_eq_true rfl) dL_law_2719 ⟨by omega, by omega⟩ ?_
  refine x_iload C dL_law_2722 1 rfl ?_
  refine x_icmp_eq C (tgt := 2729) dL_law_2724 (by decide) (fun hc4 => ?_) (fun hc4 => ?_)
  · rw [if_pos hc4] at h
    refine x_iload C dL_law_2729 1 rfl ?_
    have hJ5 : ∀ (r9 : (Mem × Mem × Mem) ⊕ Unit), jL_law41_2746 q1 q2 = some r9 → (∀ q9, r9 = .inl q9 → ∀ nc2 ns2 : Nat, nc2 ≤ nc + 8 → ns2 ≤ ns + 48 → X p l e R s m args below meth c 9 cy D B nc2 ns2 Q 2861 [(0, .ref b), (1, .ref (B + oHB)), (2, .ref (B + oMd)), (3, .ref (B + oLOut)), (4, .ref (B + oLOutD)), (5, .int i)] [] q9.1 q9.2.1 q9.2.2) → (∀ u, r9 ≠ .inr u) → X p l e R s m args below meth c 9 cy D B (nc + 1) (ns + 6) Q 2746 [(0, .ref b), (1, .ref (B + oHB)), (2, .ref (B + oMd)), (3, .ref (B + oLOut)), (4, .ref (B + oLOutD)), (5, .int i)] [] q1.2.1 q2.2 q1.2.2 := by
      intro r9 h hcont hne
      unfold jL_law41_2746 at h
      refine x_goto C (tgt := 2861) dL_law_2746 (by decide) ?_
      cases h
      exact hcont _ rfl _ _ (by omega) (by omega)
    refine x_if_ne C (tgt := 2746) dL_law_2731 (by decide) (fun hc6 => ?_) (fun hc6 => ?_)
    · rw [if_pos hc6] at h
      refine x_sub [2, 3, 4, 5, 6, 7] rfl ?_
      exact hJ5 _ h hcont hne
    · rw [if_neg hc6] at h
      refine x_aload_n C dL_law_2734 rfl 5 rfl ?_
      refine x_iconst C (v := 0) dL_law_2735 (by decide) ?_
      refine x_lald C _ (c_LOut h9) (by decide : inb (0 : Int32) 1) dL_law_2736 ?_
      refine x_iload C dL_law_2737 0 rfl ?_
      refine x_i2l C dL_law_2739 ?_
      refine x_lcmp C dL_law_2740 ?_
      refine x_if_eq C (tgt := 2746) dL_law_2741 (by decide) (fun hc7 => ?_) (fun hc7 => ?_)
      · rw [if_pos hc7] at h
        refine x_sub [2, 3, 4, 5, 6, 7] rfl ?_
        exact hJ5 _ h hcont hne
      · rw [if_neg hc7] at h
        refine x_iconst C (v := 0) dL_law_2744 (by decide) ?_
        cases h
        exact absurd rfl (hne ())
  · rw [if_neg hc4] at h
    refine x_iconst C (v := 0) dL_law_2727 (by decide) ?_
    cases h
    exact absurd rfl (hne ())
def jL_law42_2802 (q1 : Int32 × Mem × Mem) (q2 : Int32 × Mem) : Option ((Mem × Mem × Mem) ⊕ Unit) := (some (.inl (q1.2.1, q2.2, q1.2.2)))
def fL_law42 (xs : Nat → Int32) (L : Nat) (i : Int32) (σ : Mem) (μ : Mem) (ω : Mem) : Option ((Mem × Mem × Mem) ⊕ Unit) := (gd (inb (i + (1 : Int32)) L) ((fL_format_LOut (xs (i + (1 : Int32)).toNatClampNeg) σ ω).bind fun q1 => ((fX6_format (xs (i + (1 : Int32)).toNatClampNeg) μ).bind fun q2 => ((fX6_thrown q2.2).bind fun q3 => (if q3 = q1.1 then (if ¬ q1.1 = 0 then (jL_law42_2802 q1 q2) else (if (lg_cmp (rJ q1.2.2 20 0 (0 : Int32).toNatClampNeg) q2.1.toInt64) = 0 then (jL_law42_2802 q1 q2) else (some (.inr ())))) else (some (.inr ())))))))
set_option maxHeartbeats 4000000 in
set_option maxRecDepth 100000 in
theorem okL_law42 {p : Program} {l : Launch} {e : Env} {R : Room} {s : State} {m : MethodId} {args : Array Value} {below : List Frame} {meth : Method} {c : Code} {cy : Nat → ClassId} {D : va_G} {B : Nat} {ek : EK} {Q : State → Prop} (C : Cx p s m args c 9 cy D B ek "HostelBedsLaw" cL_law) (hlf : l.stackTraces = false) (h9 : ¬ cy 9 = 0) (hR9 : R = room_1) {b L : Nat} {xs : Nat → Int32} (hX : va_X b L xs s s.heap) (hbl : b < s.heap.size) (hbA : ¬ aB B b) (nc ns : Nat) (hnc : nc + 8 ≤ R.cells) (hns : ns + 48 ≤ R.slots) (i : Int32) (σ μ ω : Mem) (r9 : (Mem × Mem × Mem) ⊕ Unit) (h : fL_law42 xs L i σ μ ω = some r9) (hcont : ∀ q9, r9 = .inl q9 → ∀ nc2 ns2 : Nat, nc2 ≤ nc + 8 → ns2 ≤ ns + 48 → X p l e R s m args below meth c 9 cy D B nc2 ns2 Q 2861 [(0, .ref b), (1, .ref (B + oHB)), (2, .ref (B + oMd)), (3, .ref (B + oLOut)), (4, .ref (B + oLOutD)), (5, .int i)] [] q9.1 q9.2.1 q9.2.2) (hne : ∀ u, r9 ≠ .inr u) : X p l e R s m args below meth c 9 cy D B nc ns Q 2749 [(0, .ref b), (1, .ref (B + oHB)), (2, .ref (B + oMd)), (3, .ref (B + oLOut)), (4, .ref (B + oLOutD)), (5, .int i)] [] σ μ ω := by
  unfold fL_law42 at h
  refine x_aload_n C dL_law_2749 rfl 1 rfl ?_
  refine x_aload_n C dL_law_2750 rfl 0 rfl ?_
  refine x_iload C dL_law_2751 5 rfl ?_
  refine x_iconst C (v := 1) dL_law_2753 (by decide) ?_
  refine x_iadd C dL_law_2754 ?_
  obtain ⟨hg1, h⟩ := gd_some h
  refine x_sld C hX hbl hbA hg1 dL_law_2755 ?_
  refine x_aload_n C dL_law_2756 rfl 3 rfl ?_
  obtain ⟨q1, hk2, h⟩ := Option.bind_eq_some_iff.mp h
  refine x_callSW C (As := [.ref (B + oHB), .int (xs (i + (1 : Int32)).toNatClampNeg), .ref (B + oLOut)]) (rest := []) (cells2 := (nc + 1)) (slots2 := (ns + 6)) (lw_g_mk tw_1087 rfl) (okL_format_LOut l hlf cy D B ek h9 (xs (i + (1 : Int32)).toNatClampNeg) σ μ ω _ hk2) rfl rfl (by rw [hR9]; decide) (lw_g_mk tw_1088 rfl) (lw_g_mk tw_0 rfl) (by decide) rfl (lw_g_mk tw_1086 rfl) rfl (Nat.le_of_ble_eq_true rfl) dL_law_2757 ⟨by omega, by omega⟩ rfl rfl ?_
  refine x_istore C [(6, .int q1.1), (0, .ref b), (1, .ref (B + oHB)), (2, .ref (B + oMd)), (3, .ref (B + oLOut)), (4, .ref (B + oLOutD)), (5, .int i)] dL_law_2760 (by decide) rfl ?_
  refine x_aload_n C dL_law_2762 rfl 3 rfl ?_
  refine x_aload_n C dL_law_2763 rfl 1 rfl ?_
  refine x_iload C dL_law_2764 6 rfl ?_
  refine x_iconst C (v := 1) dL_law_2766 (by decide) ?_
  refine x_iadd C dL_law_2767 ?_
  refine x_sld C hX hbl hbA hg1 dL_law_2768 ?_
  obtain ⟨q2, hk3, h⟩ := Option.bind_eq_some_iff.mp h
  refine x_callV C (As := [.int (xs (i + (1 : Int32)).toNatClampNeg)]) (rest := []) (lw_g_mk tw_1706 rfl) (lw_g_mk tw_1707 rfl) (c_Md) (C1 := "HostelBedsModel") (T := TX6) (N := 27) (ci := 6) rfl (okX6_format l cy D B ek (xs (i + (1 : Int32)).toNatClampNeg) q1.2.1 μ q1.2.2 _ hk3) rfl rfl (by rw [hR9]; decide) (lw_g_mk tw_1708 rfl) (lw_g_mk tw_7 rfl) (by decide) rfl (lw_g_mk tw_1705 rfl) rfl (Nat.le_of_ble_eq_true rfl) dL_law_2769 ⟨by omega, by omega⟩ ?_
  refine x_istore C [(7, .int q2.1), (6, .int q1.1), (0, .ref b), (1, .ref (B + oHB)), (2, .ref (B + oMd)), (3, .ref (B + oLOut)), (4, .ref (B + oLOutD)), (5, .int i)] dL_law_2772 (by decide) rfl ?_
  refine x_aload_n C dL_law_2774 rfl 4 rfl ?_
  obtain ⟨q3, hk4, h⟩ := Option.bind_eq_some_iff.mp h
  refine x_callV C (As := []) (rest := []) (lw_g_mk tw_1215 rfl) (lw_g_mk tw_1216 rfl) (c_Md) (C1 := "HostelBedsModel") (T := TX6) (N := 27) (ci := 6) rfl (okX6_thrown l cy D B ek q1.2.1 q2.2 q1.2.2 _ hk4) rfl rfl (by rw [hR9]; decide) (lw_g_mk tw_1217 rfl) (lw_g_mk tw_7 rfl) (by decide) rfl (lw_g_mk tw_1214 rfl) rfl (Nat.le_of_ble_eq_true rfl) dL_law_2775 ⟨by omega, by omega⟩ ?_
  refine x_iload C dL_law_2778 1 rfl ?_
  refine x_icmp_eq C (tgt := 2785) dL_law_2780 (by decide) (fun hc5 => ?_) (fun hc5 => ?_)
  · rw [if_pos hc5] at h
    refine x_iload C dL_law_2785 1 rfl ?_
    have hJ6 : ∀ (r9 : (Mem × Mem × Mem) ⊕ Unit), jL_law42_2802 q1 q2 = some r9 → (∀ q9, r9 = .inl q9 → ∀ nc2 ns2 : Nat, nc2 ≤ nc + 8 → ns2 ≤ ns + 48 → X p l e R s m args below meth c 9 cy D B nc2 ns2 Q 2861 [(0, .ref b), (1, .ref (B + oHB)), (2, .ref (B + oMd)), (3, .ref (B + oLOut)), (4, .ref (B + oLOutD)), (5, .int i)] [] q9.1 q9.2.1 q9.2.2) → (∀ u, r9 ≠ .inr u) → X p l e R s m args below meth c 9 cy D B (nc + 1) (ns + 6) Q 2802 [(0, .ref b), (1, .ref (B + oHB)), (2, .ref (B + oMd)), (3, .ref (B + oLOut)), (4, .ref (B + oLOutD)), (5, .int i)] [] q1.2.1 q2.2 q1.2.2 := by
      intro r9 h hcont hne
      unfold jL_law42_2802 at h
      refine x_goto C (tgt := 2861) dL_law_2802 (by decide) ?_
      cases h
      exact hcont _ rfl _ _ (by omega) (by omega)
    refine x_if_ne C (tgt := 2802) dL_law_2787 (by decide) (fun hc7 => ?_) (fun hc7 => ?_)
    · rw [if_pos hc7] at h
      refine x_sub [2, 3, 4, 5, 6, 7] rfl ?_
      exact hJ6 _ h hcont hne
    · rw [if_neg hc7] at h
      refine x_aload_n C dL_law_2790 rfl 5 rfl ?_
      refine x_iconst C (v := 0) dL_law_2791 (by decide) ?_
      refine x_lald C _ (c_LOut h9) (by decide : inb (0 : Int32) 1) dL_law_2792 ?_
      refine x_iload C dL_law_2793 0 rfl ?_
      refine x_i2l C dL_law_2795 ?_
      refine x_lcmp C dL_law_2796 ?_
      refine x_if_eq C (tgt := 2802) dL_law_2797 (by decide) (fun hc8 => ?_) (fun hc8 => ?_)
      · rw [if_pos hc8] at h
        refine x_sub [2, 3, 4, 5, 6, 7] rfl ?_
        exact hJ6 _ h hcont hne
      · rw [if_neg hc8] at h
        refine x_iconst C (v := 0) dL_law_2800 (by decide) ?_
        cases h
        exact absurd rfl (hne ())
  · rw [if_neg hc5] at h
    refine x_iconst C (v := 0) dL_law_2783 (by decide) ?_
    cases h
    exact absurd rfl (hne ())
def jL_law43_2858 (σ : Mem) (q2 : Int32 × Mem) (q1 : Int32 × Mem) : Option ((Mem × Mem × Mem) ⊕ Unit) := (some (.inl (σ, q2.2, q1.2)))
def fL_law43 (xs : Nat → Int32) (L : Nat) (i : Int32) (σ : Mem) (μ : Mem) (ω : Mem) : Option ((Mem × Mem × Mem) ⊕ Unit) := (gd (inb (i + (1 : Int32)) L) ((fL_formattedCharacter_LOut (xs (i + (1 : Int32)).toNatClampNeg) σ ω).bind fun q1 => ((fX6_formattedCharacter (xs (i + (1 : Int32)).toNatClampNeg) μ).bind fun q2 => ((fX6_thrown q2.2).bind fun q3 => (if q3 = q1.1 then (if ¬ q1.1 = 0 then (jL_law43_2858 σ q2 q1) else (if (lg_cmp (rJ q1.2 20 0 (0 : Int32).toNatClampNeg) q2.1.toInt64) = 0 then (jL_law43_2858 σ q2 q1) else (some (.inr ())))) else (some (.inr ())))))))
set_option maxHeartbeats 4000000 in
set_option maxRecDepth 100000 in
theorem okL_law43 {p : Program} {l : Launch} {e : Env} {R : Room} {s : State} {m : MethodId} {args : Array Value} {below : List Frame} {meth : Method} {c : Code} {cy : Nat → ClassId} {D : va_G} {B : Nat} {ek : EK} {Q : State → Prop} (C : Cx p s m args c 9 cy D B ek "HostelBedsLaw" cL_law) (hlf : l.stackTraces = false) (h9 : ¬ cy 9 = 0) (hR9 : R = room_1) {b L : Nat} {xs : Nat → Int32} (hX : va_X b L xs s s.heap) (hbl : b < s.heap.size) (hbA : ¬ aB B b) (nc ns : Nat) (hnc : nc + 8 ≤ R.cells) (hns : ns + 48 ≤ R.slots) (i : Int32) (σ μ ω : Mem) (r9 : (Mem × Mem × Mem) ⊕ Unit) (h : fL_law43 xs L i σ μ ω = some r9) (hcont : ∀ q9, r9 = .inl q9 → ∀ nc2 ns2 : Nat, nc2 ≤ nc + 8 → ns2 ≤ ns + 48 → X p l e R s m args below meth c 9 cy D B nc2 ns2 Q 2861 [(0, .ref b), (1, .ref (B + oHB)), (2, .ref (B + oMd)), (3, .ref (B + oLOut)), (4, .ref (B + oLOutD)), (5, .int i)] [] q9.1 q9.2.1 q9.2.2) (hne : ∀ u, r9 ≠ .inr u) : X p l e R s m args below meth c 9 cy D B nc ns Q 2805 [(0, .ref b), (1, .ref (B + oHB)), (2, .ref (B + oMd)), (3, .ref (B + oLOut)), (4, .ref (B + oLOutD)), (5, .int i)] [] σ μ ω := by
  unfold fL_law43 at h
  refine x_aload_n C dL_law_2805 rfl 1 rfl ?_
  refine x_aload_n C dL_law_2806 rfl 0 rfl ?_
  refine x_iload C dL_law_2807 5 rfl ?_
  refine x_iconst C (v := 1) dL_law_2809 (by decide) ?_
  refine x_iadd C dL_law_2810 ?_
  obtain ⟨hg1, h⟩ := gd_some h
  refine x_sld C hX hbl hbA hg1 dL_law_2811 ?_
  refine x_aload_n C dL_law_2812 rfl 3 rfl ?_
  obtain ⟨q1, hk2, h⟩ := Option.bind_eq_some_iff.mp h
  refine x_callSW C (As := [.ref (B + oHB), .int (xs (i + (1 : Int32)).toNatClampNeg), .ref (B + oLOut)]) (rest := []) (cells2 := (nc + 1)) (slots2 := (ns + 6)) (lw_g_mk tw_1106 rfl) (okL_formattedCharacter_LOut l hlf cy D B ek h9 (xs (i + (1 : Int32)).toNatClampNeg) σ μ ω _ hk2) rfl rfl (by rw [hR9]; decide) (lw_g_mk tw_1107 rfl) (lw_g_mk tw_0 rfl) (by decide) rfl (lw_g_mk tw_1105 rfl) rfl (Nat.le_of_ble_eq_true rfl) dL_law_2813 ⟨by omega, by omega⟩ rfl rfl ?_
  refine x_istore C [(6, .int q1.1), (0, .ref b), (1, .ref (B + oHB)), (2, .ref (B + oMd)), (3, .ref (B + oLOut)), (4, .ref (B + oLOutD)), (5, .int i)] dL_law_2816 (by decide) rfl ?_
  refine x_aload_n C dL_law_2818 rfl 3 rfl ?_
  refine x_aload_n C dL_law_2819 rfl 1 rfl ?_
  refine x_iload C dL_law_2820 6 rfl ?_
  refine x_iconst C (v := 1) dL_law_2822 (by decide) ?_
  refine x_iadd C dL_law_2823 ?_
  refine x_sld C hX hbl hbA hg1 dL_law_2824 ?_
  obtain ⟨q2, hk3, h⟩ := Option.bind_eq_some_iff.mp h
  refine x_callV C (As := [.int (xs (i + (1 : Int32)).toNatClampNeg)]) (rest := []) (lw_g_mk tw_1723 rfl) (lw_g_mk tw_1724 rfl) (c_Md) (C1 := "HostelBedsModel") (T := TX6) (N := 27) (ci := 6) rfl (okX6_formattedCharacter l cy D B ek (xs (i + (1 : Int32)).toNatClampNeg) σ μ q1.2 _ hk3) rfl rfl (by rw [hR9]; decide) (lw_g_mk tw_1725 rfl) (lw_g_mk tw_7 rfl) (by decide) rfl (lw_g_mk tw_1722 rfl) rfl (Nat.le_of_ble_eq_true rfl) dL_law_2825 ⟨by omega, by omega⟩ ?_
  refine x_istore C [(7, .int q2.1), (6, .int q1.1), (0, .ref b), (1, .ref (B + oHB)), (2, .ref (B + oMd)), (3, .ref (B + oLOut)), (4, .ref (B + oLOutD)), (5, .int i)] dL_law_2828 (by decide) rfl ?_
  refine x_aload_n C dL_law_2830 rfl 4 rfl ?_
  obtain ⟨q3, hk4, h⟩ := Option.bind_eq_some_iff.mp h
  refine x_callV C (As := []) (rest := []) (lw_g_mk tw_1215 rfl) (lw_g_mk tw_1216 rfl) (c_Md) (C1 := "HostelBedsModel") (T := TX6) (N := 27) (ci := 6) rfl (okX6_thrown l cy D B ek σ q2.2 q1.2 _ hk4) rfl rfl (by rw [hR9]; decide) (lw_g_mk tw_1217 rfl) (lw_g_mk tw_7 rfl) (by decide) rfl (lw_g_mk tw_1214 rfl) rfl (Nat.le_of_ble_eq_true rfl) dL_law_2831 ⟨by omega, by omega⟩ ?_
  refine x_iload C dL_law_2834 1 rfl ?_
  refine x_icmp_eq C (tgt := 2841) dL_law_2836 (by decide) (fun hc5 => ?_) (fun hc5 => ?_)
  · rw [if_pos hc5] at h
    refine x_iload C dL_law_2841 1 rfl ?_
    have hJ6 : ∀ (r9 : (Mem × Mem × Mem) ⊕ Unit), jL_law43_2858 σ q2 q1 = some r9 → (∀ q9, r9 = .inl q9 → ∀ nc2 ns2 : Nat, nc2 ≤ nc + 8 → ns2 ≤ ns + 48 → X p l e R s m args below meth c 9 cy D B nc2 ns2 Q 2861 [(0, .ref b), (1, .ref (B + oHB)), (2, .ref (B + oMd)), (3, .ref (B + oLOut)), (4, .ref (B + oLOutD)), (5, .int i)] [] q9.1 q9.2.1 q9.2.2) → (∀ u, r9 ≠ .inr u) → X p l e R s m args below meth c 9 cy D B (nc + 1) (ns + 6) Q 2858 [(0, .ref b), (1, .ref (B + oHB)), (2, .ref (B + oMd)), (3, .ref (B + oLOut)), (4, .ref (B + oLOutD)), (5, .int i)] [] σ q2.2 q1.2 := by
      intro r9 h hcont hne
      unfold jL_law43_2858 at h
      refine x_goto C (tgt := 2861) dL_law_2858 (by decide) ?_
      cases h
      exact hcont _ rfl _ _ (by omega) (by omega)
    refine x_if_ne C (tgt := 2858) dL_law_2843 (by decide) (fun hc7 => ?_) (fun hc7 => ?_)
    · rw [if_pos hc7] at h
      refine x_sub [2, 3, 4, 5, 6, 7] rfl ?_
      exact hJ6 _ h hcont hne
    · rw [if_neg hc7] at h
      refine x_aload_n C dL_law_2846 rfl 5 rfl ?_
      refine x_iconst C (v := 0) dL_law_2847 (by decide) ?_
      refine x_lald C _ (c_LOut h9) (by decide : inb (0 : Int32) 1) dL_law_2848 ?_
      refine x_iload C dL_law_2849 0 rfl ?_
      refine x_i2l C dL_law_2851 ?_
      refine x_lcmp C dL_law_2852 ?_
      refine x_if_eq C (tgt := 2858) dL_law_2853 (by decide) (fun hc8 => ?_) (fun hc8 => ?_)
      · rw [if_pos hc8] at h
        refine x_sub [2, 3, 4, 5, 6, 7] rfl ?_
        exact hJ6 _ h hcont hne
      · rw [if_neg hc8] at h
        refine x_iconst C (v := 0) dL_law_2856 (by decide) ?_
        cases h
        exact absurd rfl (hne ())
  · rw [if_neg hc5] at h
    refine x_iconst C (v := 0) dL_law_2839 (by decide) ?_
    cases h
    exact absurd rfl (hne ())
