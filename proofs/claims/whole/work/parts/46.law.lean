/-! the law's own loop (written by wip/gen/nlaw.py) -/
def fLk (xs : Nat → Int32) (L : Nat) (i : Int32) (σ μ ω : Mem) : Nat → Option ((Mem × Mem × Mem) ⊕ Unit)
  | 0 => fL_law0 xs L i σ μ ω
  | 1 => fL_law1 xs L i σ μ ω
  | 2 => fL_law2 xs L i σ μ ω
  | 3 => fL_law3 xs L i σ μ ω
  | 4 => fL_law4 xs L i σ μ ω
  | 5 => fL_law5 xs L i σ μ ω
  | 6 => fL_law6 xs L i σ μ ω
  | 7 => fL_law7 xs L i σ μ ω
  | 8 => fL_law8 xs L i σ μ ω
  | 9 => fL_law9 xs L i σ μ ω
  | 10 => fL_law10 xs L i σ μ ω
  | 11 => fL_law11 xs L i σ μ ω
  | 12 => fL_law12 xs L i σ μ ω
  | 13 => fL_law13 xs L i σ μ ω
  | 14 => fL_law14 xs L i σ μ ω
  | 15 => fL_law15 xs L i σ μ ω
  | 16 => fL_law16 xs L i σ μ ω
  | 17 => fL_law17 xs L i σ μ ω
  | 18 => fL_law18 xs L i σ μ ω
  | 19 => fL_law19 xs L i σ μ ω
  | 20 => fL_law20 xs L i σ μ ω
  | 21 => fL_law21 xs L i σ μ ω
  | 22 => fL_law22 xs L i σ μ ω
  | 23 => fL_law23 xs L i σ μ ω
  | 24 => fL_law24 xs L i σ μ ω
  | 25 => fL_law25 xs L i σ μ ω
  | 26 => fL_law26 xs L i σ μ ω
  | 27 => fL_law27 xs L i σ μ ω
  | 28 => fL_law28 xs L i σ μ ω
  | 29 => fL_law29 xs L i σ μ ω
  | 30 => fL_law30 xs L i σ μ ω
  | 31 => fL_law31 xs L i σ μ ω
  | 32 => fL_law32 xs L i σ μ ω
  | 33 => fL_law33 xs L i σ μ ω
  | 34 => fL_law34 xs L i σ μ ω
  | 35 => fL_law35 xs L i σ μ ω
  | 36 => fL_law36 xs L i σ μ ω
  | 37 => fL_law37 xs L i σ μ ω
  | 38 => fL_law38 xs L i σ μ ω
  | 39 => fL_law39 xs L i σ μ ω
  | 40 => fL_law40 xs L i σ μ ω
  | 41 => fL_law41 xs L i σ μ ω
  | 42 => fL_law42 xs L i σ μ ω
  | 43 => fL_law43 xs L i σ μ ω
  | _ => some (.inl (σ, μ, ω))
theorem and63 (v : Int32) : ∃ k, k < 64 ∧ v &&& 63 = nI k ∧ (v &&& 63).toBitVec.toNat = k := by
  refine ⟨(v &&& 63).toBitVec.toNat, ?_, ?_, rfl⟩
  · rw [Int32.toBitVec_and, BitVec.toNat_and]
    exact Nat.lt_of_le_of_lt Nat.and_le_right (by decide)
  · apply Int32.toBitVec_inj.mp
    show _ = BitVec.ofNat 32 _
    rw [BitVec.ofNat_toNat, BitVec.setWidth_eq]
set_option maxHeartbeats 4000000 in
theorem okL_sw {p : Program} {l : Launch} {e : Env} {R : Room} {s : State} {m : MethodId} {args : Array Value} {below : List Frame} {meth : Method} {c : Code} {cy : Nat → ClassId} {D : va_G} {B : Nat} {ek : EK} {Q : State → Prop} (C : Cx p s m args c 9 cy D B ek "HostelBedsLaw" cL_law) (hlf : l.stackTraces = false) (h9 : ¬ cy 9 = 0) (hR9 : R = room_1) {b L : Nat} {xs : Nat → Int32} (hX : va_X b L xs s s.heap) (hbl : b < s.heap.size) (hbA : ¬ aB B b) (nc ns : Nat) (hnc : nc + 8 ≤ R.cells) (hns : ns + 48 ≤ R.slots) (i : Int32) (σ μ ω : Mem) (r9 : (Mem × Mem × Mem) ⊕ Unit) (k : Nat) (hk : k < 64) (h : fLk xs L i σ μ ω k = some r9) (hcont : ∀ q9, r9 = .inl q9 → ∀ nc2 ns2 : Nat, nc2 ≤ nc + 8 → ns2 ≤ ns + 48 → X p l e R s m args below meth c 9 cy D B nc2 ns2 Q 2861 [(0, .ref b), (1, .ref (B + oHB)), (2, .ref (B + oMd)), (3, .ref (B + oLOut)), (4, .ref (B + oLOutD)), (5, .int i)] [] q9.1 q9.2.1 q9.2.2) (hne : ∀ u, r9 ≠ .inr u) : X p l e R s m args below meth c 9 cy D B nc ns Q 45 [(0, .ref b), (1, .ref (B + oHB)), (2, .ref (B + oMd)), (3, .ref (B + oLOut)), (4, .ref (B + oLOutD)), (5, .int i)] [.int (nI k)] σ μ ω := by
  rcases k with _ | k
  · exact x_tableIn C dL_law_45 (x := nI 0) (by decide +kernel) (by decide +kernel) (off := 191) (by decide +kernel) (tgt := 236) (by decide +kernel) (okL_law0 C hlf h9 hR9 hX hbl hbA nc ns hnc hns i σ μ ω r9 h hcont hne)
  rcases k with _ | k
  · exact x_tableIn C dL_law_45 (x := nI 1) (by decide +kernel) (by decide +kernel) (off := 295) (by decide +kernel) (tgt := 340) (by decide +kernel) (okL_law1 C hlf h9 hR9 hX hbl hbA nc ns hnc hns i σ μ ω r9 h hcont hne)
  rcases k with _ | k
  · exact x_tableIn C dL_law_45 (x := nI 2) (by decide +kernel) (by decide +kernel) (off := 331) (by decide +kernel) (tgt := 376) (by decide +kernel) (okL_law2 C hlf h9 hR9 hX hbl hbA nc ns hnc hns i σ μ ω r9 h hcont hne)
  rcases k with _ | k
  · exact x_tableIn C dL_law_45 (x := nI 3) (by decide +kernel) (by decide +kernel) (off := 375) (by decide +kernel) (tgt := 420) (by decide +kernel) (okL_law3 C hlf h9 hR9 hX hbl hbA nc ns hnc hns i σ μ ω r9 h hcont hne)
  rcases k with _ | k
  · exact x_tableIn C dL_law_45 (x := nI 4) (by decide +kernel) (by decide +kernel) (off := 388) (by decide +kernel) (tgt := 433) (by decide +kernel) (okL_law4 C hlf h9 hR9 hX hbl hbA nc ns hnc hns i σ μ ω r9 h hcont hne)
  rcases k with _ | k
  · exact x_tableIn C dL_law_45 (x := nI 5) (by decide +kernel) (by decide +kernel) (off := 444) (by decide +kernel) (tgt := 489) (by decide +kernel) (okL_law5 C hlf h9 hR9 hX hbl hbA nc ns hnc hns i σ μ ω r9 h hcont hne)
  rcases k with _ | k
  · exact x_tableIn C dL_law_45 (x := nI 6) (by decide +kernel) (by decide +kernel) (off := 500) (by decide +kernel) (tgt := 545) (by decide +kernel) (okL_law6 C hlf h9 hR9 hX hbl hbA nc ns hnc hns i σ μ ω r9 h hcont hne)
  rcases k with _ | k
  · exact x_tableIn C dL_law_45 (x := nI 7) (by decide +kernel) (by decide +kernel) (off := 568) (by decide +kernel) (tgt := 613) (by decide +kernel) (okL_law7 C hlf h9 hR9 hX hbl hbA nc ns hnc hns i σ μ ω r9 h hcont hne)
  rcases k with _ | k
  · exact x_tableIn C dL_law_45 (x := nI 8) (by decide +kernel) (by decide +kernel) (off := 636) (by decide +kernel) (tgt := 681) (by decide +kernel) (okL_law8 C hlf h9 hR9 hX hbl hbA nc ns hnc hns i σ μ ω r9 h hcont hne)
  rcases k with _ | k
  · exact x_tableIn C dL_law_45 (x := nI 9) (by decide +kernel) (by decide +kernel) (off := 708) (by decide +kernel) (tgt := 753) (by decide +kernel) (okL_law9 C hlf h9 hR9 hX hbl hbA nc ns hnc hns i σ μ ω r9 h hcont hne)
  rcases k with _ | k
  · exact x_tableIn C dL_law_45 (x := nI 10) (by decide +kernel) (by decide +kernel) (off := 764) (by decide +kernel) (tgt := 809) (by decide +kernel) (okL_law10 C hlf h9 hR9 hX hbl hbA nc ns hnc hns i σ μ ω r9 h hcont hne)
  rcases k with _ | k
  · exact x_tableIn C dL_law_45 (x := nI 11) (by decide +kernel) (by decide +kernel) (off := 820) (by decide +kernel) (tgt := 865) (by decide +kernel) (okL_law11 C hlf h9 hR9 hX hbl hbA nc ns hnc hns i σ μ ω r9 h hcont hne)
  rcases k with _ | k
  · exact x_tableIn C dL_law_45 (x := nI 12) (by decide +kernel) (by decide +kernel) (off := 876) (by decide +kernel) (tgt := 921) (by decide +kernel) (okL_law12 C hlf h9 hR9 hX hbl hbA nc ns hnc hns i σ μ ω r9 h hcont hne)
  rcases k with _ | k
  · exact x_tableIn C dL_law_45 (x := nI 13) (by decide +kernel) (by decide +kernel) (off := 932) (by decide +kernel) (tgt := 977) (by decide +kernel) (okL_law13 C hlf h9 hR9 hX hbl hbA nc ns hnc hns i σ μ ω r9 h hcont hne)
  rcases k with _ | k
  · exact x_tableIn C dL_law_45 (x := nI 14) (by decide +kernel) (by decide +kernel) (off := 1000) (by decide +kernel) (tgt := 1045) (by decide +kernel) (okL_law14 C hlf h9 hR9 hX hbl hbA nc ns hnc hns i σ μ ω r9 h hcont hne)
  rcases k with _ | k
  · exact x_tableIn C dL_law_45 (x := nI 15) (by decide +kernel) (by decide +kernel) (off := 1068) (by decide +kernel) (tgt := 1113) (by decide +kernel) (okL_law15 C hlf h9 hR9 hX hbl hbA nc ns hnc hns i σ μ ω r9 h hcont hne)
  rcases k with _ | k
  · exact x_tableIn C dL_law_45 (x := nI 16) (by decide +kernel) (by decide +kernel) (off := 1148) (by decide +kernel) (tgt := 1193) (by decide +kernel) (okL_law16 C hlf h9 hR9 hX hbl hbA nc ns hnc hns i σ μ ω r9 h hcont hne)
  rcases k with _ | k
  · exact x_tableIn C dL_law_45 (x := nI 17) (by decide +kernel) (by decide +kernel) (off := 1216) (by decide +kernel) (tgt := 1261) (by decide +kernel) (okL_law17 C hlf h9 hR9 hX hbl hbA nc ns hnc hns i σ μ ω r9 h hcont hne)
  rcases k with _ | k
  · exact x_tableIn C dL_law_45 (x := nI 18) (by decide +kernel) (by decide +kernel) (off := 1272) (by decide +kernel) (tgt := 1317) (by decide +kernel) (okL_law18 C hlf h9 hR9 hX hbl hbA nc ns hnc hns i σ μ ω r9 h hcont hne)
  rcases k with _ | k
  · exact x_tableIn C dL_law_45 (x := nI 19) (by decide +kernel) (by decide +kernel) (off := 1328) (by decide +kernel) (tgt := 1373) (by decide +kernel) (okL_law19 C hlf h9 hR9 hX hbl hbA nc ns hnc hns i σ μ ω r9 h hcont hne)
  rcases k with _ | k
  · exact x_tableIn C dL_law_45 (x := nI 20) (by decide +kernel) (by decide +kernel) (off := 1384) (by decide +kernel) (tgt := 1429) (by decide +kernel) (okL_law20 C hlf h9 hR9 hX hbl hbA nc ns hnc hns i σ μ ω r9 h hcont hne)
  rcases k with _ | k
  · exact x_tableIn C dL_law_45 (x := nI 21) (by decide +kernel) (by decide +kernel) (off := 1397) (by decide +kernel) (tgt := 1442) (by decide +kernel) (okL_law21 C hlf h9 hR9 hX hbl hbA nc ns hnc hns i σ μ ω r9 h hcont hne)
  rcases k with _ | k
  · exact x_tableIn C dL_law_45 (x := nI 22) (by decide +kernel) (by decide +kernel) (off := 1465) (by decide +kernel) (tgt := 1510) (by decide +kernel) (okL_law22 C hlf h9 hR9 hX hbl hbA nc ns hnc hns i σ μ ω r9 h hcont hne)
  rcases k with _ | k
  · exact x_tableIn C dL_law_45 (x := nI 23) (by decide +kernel) (by decide +kernel) (off := 1478) (by decide +kernel) (tgt := 1523) (by decide +kernel) (okL_law23 C hlf h9 hR9 hX hbl hbA nc ns hnc hns i σ μ ω r9 h hcont hne)
  rcases k with _ | k
  · exact x_tableIn C dL_law_45 (x := nI 24) (by decide +kernel) (by decide +kernel) (off := 1534) (by decide +kernel) (tgt := 1579) (by decide +kernel) (okL_law24 C hlf h9 hR9 hX hbl hbA nc ns hnc hns i σ μ ω r9 h hcont hne)
  rcases k with _ | k
  · exact x_tableIn C dL_law_45 (x := nI 25) (by decide +kernel) (by decide +kernel) (off := 1590) (by decide +kernel) (tgt := 1635) (by decide +kernel) (okL_law25 C hlf h9 hR9 hX hbl hbA nc ns hnc hns i σ μ ω r9 h hcont hne)
  rcases k with _ | k
  · exact x_tableIn C dL_law_45 (x := nI 26) (by decide +kernel) (by decide +kernel) (off := 1603) (by decide +kernel) (tgt := 1648) (by decide +kernel) (okL_law26 C hlf h9 hR9 hX hbl hbA nc ns hnc hns i σ μ ω r9 h hcont hne)
  rcases k with _ | k
  · exact x_tableIn C dL_law_45 (x := nI 27) (by decide +kernel) (by decide +kernel) (off := 1616) (by decide +kernel) (tgt := 1661) (by decide +kernel) (okL_law27 C hlf h9 hR9 hX hbl hbA nc ns hnc hns i σ μ ω r9 h hcont hne)
  rcases k with _ | k
  · exact x_tableIn C dL_law_45 (x := nI 28) (by decide +kernel) (by decide +kernel) (off := 1705) (by decide +kernel) (tgt := 1750) (by decide +kernel) (okL_law28 C hlf h9 hR9 hX hbl hbA nc ns hnc hns i σ μ ω r9 h hcont hne)
  rcases k with _ | k
  · exact x_tableIn C dL_law_45 (x := nI 29) (by decide +kernel) (by decide +kernel) (off := 1782) (by decide +kernel) (tgt := 1827) (by decide +kernel) (okL_law29 C hlf h9 hR9 hX hbl hbA nc ns hnc hns i σ μ ω r9 h hcont hne)
  rcases k with _ | k
  · exact x_tableIn C dL_law_45 (x := nI 30) (by decide +kernel) (by decide +kernel) (off := 1859) (by decide +kernel) (tgt := 1904) (by decide +kernel) (okL_law30 C hlf h9 hR9 hX hbl hbA nc ns hnc hns i σ μ ω r9 h hcont hne)
  rcases k with _ | k
  · exact x_tableIn C dL_law_45 (x := nI 31) (by decide +kernel) (by decide +kernel) (off := 1963) (by decide +kernel) (tgt := 2008) (by decide +kernel) (okL_law31 C hlf h9 hR9 hX hbl hbA nc ns hnc hns i σ μ ω r9 h hcont hne)
  rcases k with _ | k
  · exact x_tableIn C dL_law_45 (x := nI 32) (by decide +kernel) (by decide +kernel) (off := 2055) (by decide +kernel) (tgt := 2100) (by decide +kernel) (okL_law32 C hlf h9 hR9 hX hbl hbA nc ns hnc hns i σ μ ω r9 h hcont hne)
  rcases k with _ | k
  · exact x_tableIn C dL_law_45 (x := nI 33) (by decide +kernel) (by decide +kernel) (off := 2111) (by decide +kernel) (tgt := 2156) (by decide +kernel) (okL_law33 C hlf h9 hR9 hX hbl hbA nc ns hnc hns i σ μ ω r9 h hcont hne)
  rcases k with _ | k
  · exact x_tableIn C dL_law_45 (x := nI 34) (by decide +kernel) (by decide +kernel) (off := 2124) (by decide +kernel) (tgt := 2169) (by decide +kernel) (okL_law34 C hlf h9 hR9 hX hbl hbA nc ns hnc hns i σ μ ω r9 h hcont hne)
  rcases k with _ | k
  · exact x_tableIn C dL_law_45 (x := nI 35) (by decide +kernel) (by decide +kernel) (off := 2242) (by decide +kernel) (tgt := 2287) (by decide +kernel) (okL_law35 C hlf h9 hR9 hX hbl hbA nc ns hnc hns i σ μ ω r9 h hcont hne)
  rcases k with _ | k
  · exact x_tableIn C dL_law_45 (x := nI 36) (by decide +kernel) (by decide +kernel) (off := 2298) (by decide +kernel) (tgt := 2343) (by decide +kernel) (okL_law36 C hlf h9 hR9 hX hbl hbA nc ns hnc hns i σ μ ω r9 h hcont hne)
  rcases k with _ | k
  · exact x_tableIn C dL_law_45 (x := nI 37) (by decide +kernel) (by decide +kernel) (off := 2389) (by decide +kernel) (tgt := 2434) (by decide +kernel) (okL_law37 C hlf h9 hR9 hX hbl hbA nc ns hnc hns i σ μ ω r9 h hcont hne)
  rcases k with _ | k
  · exact x_tableIn C dL_law_45 (x := nI 38) (by decide +kernel) (by decide +kernel) (off := 2480) (by decide +kernel) (tgt := 2525) (by decide +kernel) (okL_law38 C hlf h9 hR9 hX hbl hbA nc ns hnc hns i σ μ ω r9 h hcont hne)
  rcases k with _ | k
  · exact x_tableIn C dL_law_45 (x := nI 39) (by decide +kernel) (by decide +kernel) (off := 2536) (by decide +kernel) (tgt := 2581) (by decide +kernel) (okL_law39 C hlf h9 hR9 hX hbl hbA nc ns hnc hns i σ μ ω r9 h hcont hne)
  rcases k with _ | k
  · exact x_tableIn C dL_law_45 (x := nI 40) (by decide +kernel) (by decide +kernel) (off := 2592) (by decide +kernel) (tgt := 2637) (by decide +kernel) (okL_law40 C hlf h9 hR9 hX hbl hbA nc ns hnc hns i σ μ ω r9 h hcont hne)
  rcases k with _ | k
  · exact x_tableIn C dL_law_45 (x := nI 41) (by decide +kernel) (by decide +kernel) (off := 2660) (by decide +kernel) (tgt := 2705) (by decide +kernel) (okL_law41 C hlf h9 hR9 hX hbl hbA nc ns hnc hns i σ μ ω r9 h hcont hne)
  rcases k with _ | k
  · exact x_tableIn C dL_law_45 (x := nI 42) (by decide +kernel) (by decide +kernel) (off := 2704) (by decide +kernel) (tgt := 2749) (by decide +kernel) (okL_law42 C hlf h9 hR9 hX hbl hbA nc ns hnc hns i σ μ ω r9 h hcont hne)
  rcases k with _ | k
  · exact x_tableIn C dL_law_45 (x := nI 43) (by decide +kernel) (by decide +kernel) (off := 2760) (by decide +kernel) (tgt := 2805) (by decide +kernel) (okL_law43 C hlf h9 hR9 hX hbl hbA nc ns hnc hns i σ μ ω r9 h hcont hne)
  cases h
  exact x_tableOut C dL_law_45 (Or.inr (by rw [nI_toInt (by omega)]; omega)) (tgt := 2861) (by decide +kernel) (hcont _ rfl nc ns (by omega) (by omega))
theorem gt_end {L k : Nat} (hL : L ≤ 3584) (hk : k ≤ L) : (Int32.ofNat L - 7 < nI k) ↔ L < k + 7 := by
  rw [Int32.lt_iff_toInt_lt, nI_toInt (by omega)]
  have h1 : (Int32.ofNat L - 7).toInt = (L : Int) - 7 := by
    have h2 : (Int32.ofNat L).toInt = (L : Int) := nI_toInt (n := L) (by omega)
    rw [Int32.toInt_sub, h2]
    show Int.bmod ((L : Int) - (7 : Int32).toInt) (2 ^ 32) = _
    rw [show (7 : Int32).toInt = 7 by decide]
    exact Int.bmod_eq_of_le (by omega) (by omega)
  rw [h1]
  omega
set_option maxHeartbeats 4000000 in
/-- the loop: Inv between the memories before each call -/
theorem okL_loop {p : Program} {l : Launch} {e : Env} {R : Room} {s : State} {m : MethodId} {args : Array Value} {below : List Frame} {meth : Method} {c : Code} {cy : Nat → ClassId} {D : va_G} {B : Nat} {ek : EK} {Q : State → Prop} (C : Cx p s m args c 9 cy D B ek "HostelBedsLaw" cL_law) (hlf : l.stackTraces = false) (h9 : ¬ cy 9 = 0) (hR9 : R = room_1) {b L : Nat} {xs : Nat → Int32} (hX : va_X b L xs s s.heap) (hbl : b < s.heap.size) (hbA : ¬ aB B b) (hL : L ≤ 3584) (Inv : Mem → Mem → Mem → Prop) (hstep : ∀ (k : Nat) (σ μ ω : Mem), 7 * k + 7 ≤ L → Inv σ μ ω → ∃ q : Mem × Mem × Mem, fLk xs L (nI (7 * k)) σ μ ω (xs (7 * k) &&& 63).toBitVec.toNat = some (.inl q) ∧ Inv q.1 q.2.1 q.2.2) (N0 S0 : Nat) (hN0 : N0 + 8 * 513 ≤ R.cells) (hS0 : S0 + 48 * 513 ≤ R.slots)
    (hend : ∀ (nc ns : Nat) (lcs : List (Nat × Value)) (σ μ ω : Mem), nc ≤ N0 + 8 * 513 → ns ≤ S0 + 48 * 513 → X p l e R s m args below meth c 9 cy D B nc ns Q 2867 lcs [] σ μ ω) :
    ∀ (n k : Nat), 7 * k ≤ L → L < 7 * k + 7 * n → ∀ (nc ns : Nat) (σ μ ω : Mem), nc ≤ N0 + 8 * k → ns ≤ S0 + 48 * k → Inv σ μ ω → X p l e R s m args below meth c 9 cy D B nc ns Q 28 [(0, .ref b), (1, .ref (B + oHB)), (2, .ref (B + oMd)), (3, .ref (B + oLOut)), (4, .ref (B + oLOutD)), (5, .int (nI (7 * k)))] [] σ μ ω := by
  intro n
  induction n with
  | zero => intro k h1 h2; exact absurd h2 (by omega)
  | succ n ih =>
    intro k h1 h2 nc ns σ μ ω hnc hns hI
    refine x_iload C dL_law_28 5 rfl ?_
    refine x_aload_n C dL_law_30 rfl 0 rfl ?_
    refine x_slen C hX hbl hbA dL_law_31 ?_
    refine x_bipush C (v := 7) dL_law_32 (by decide) ?_
    refine x_isub C dL_law_34 ?_
    refine x_icmp_gt C (tgt := 2867) dL_law_35 (by decide) (fun hc => ?_) (fun hc => ?_)
    · exact hend _ _ _ _ _ _ (by omega) (by omega)
    · have hk : 7 * k + 7 ≤ L := by
        rcases Nat.lt_or_ge L (7 * k + 7) with q | q
        · exact absurd ((gt_end hL h1).mpr q) hc
        · exact q
      refine x_aload_n C dL_law_38 rfl 0 rfl ?_
      refine x_iload C dL_law_39 5 rfl ?_
      refine x_sld C hX hbl hbA (nI_in (c := 7 * k) (N := L) (by omega) (by omega)) dL_law_41 ?_
      refine x_bipush C (v := 63) dL_law_42 (by decide) ?_
      refine x_iand C dL_law_44 ?_
      rw [nI_clamp (by omega)]
      obtain ⟨z, hz1, hz2, hz3⟩ := and63 (xs (7 * k))
      rw [hz2]
      obtain ⟨q, hq, hq2⟩ := hstep k σ μ ω hk hI
      rw [hz3] at hq
      refine okL_sw C hlf h9 hR9 hX hbl hbA nc ns (by omega) (by omega) (nI (7 * k)) σ μ ω _ z hz1 hq ?_ (fun u hu => by cases hu)
      intro q9 hq9 nc2 ns2 h5 h6
      cases hq9
      refine x_iinc C (k := 5) [(5, .int (nI (7 * (k + 1)))), (0, .ref b), (1, .ref (B + oHB)), (2, .ref (B + oMd)), (3, .ref (B + oLOut)), (4, .ref (B + oLOutD))] dL_law_2861 rfl (by show nI (7 * k) + nI 7 = _; rw [nI_add]; rfl) (by decide) rfl ?_
      refine x_goto C (tgt := 28) dL_law_2864 (by decide) ?_
      refine x_sub [1, 2, 3, 4, 5, 0] rfl ?_
      exact ih (k + 1) (by omega) (by omega) nc2 ns2 _ _ _ (by omega) (by omega) hq2
