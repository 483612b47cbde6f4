def jL_law0_337 (q1 : Int32 × Mem × Mem) (q2 : Int32 × Mem) : Option ((Mem × Mem × Mem) ⊕ Unit) := (some (.inl (q1.2.1, q2.2, q1.2.2)))
def fL_law0 (xs : Nat → Int32) (L : Nat) (i : Int32) (σ : Mem) (μ : Mem) (ω : Mem) : Option ((Mem × Mem × Mem) ⊕ Unit) := (gd (inb (i + (1 : Int32)) L) (gd (inb (i + (2 : Int32)) L) (gd (inb (i + (3 : Int32)) L) (gd (inb (i + (4 : Int32)) L) (gd (inb (i + (5 : Int32)) L) ((fL_append_LOut (xs (i + (1 : Int32)).toNatClampNeg) (xs (i + (2 : Int32)).toNatClampNeg) (xs (i + (3 : Int32)).toNatClampNeg) (xs (i + (4 : Int32)).toNatClampNeg) (xs (i + (5 : Int32)).toNatClampNeg) σ ω).bind fun q1 => ((fX6_append (xs (i + (1 : Int32)).toNatClampNeg) (xs (i + (2 : Int32)).toNatClampNeg) (xs (i + (3 : Int32)).toNatClampNeg) (xs (i + (4 : Int32)).toNatClampNeg) (xs (i + (5 : Int32)).toNatClampNeg) μ).bind fun q2 => ((fX6_thrown q2.2).bind fun q3 => (if q3 = q1.1 then (if ¬ q1.1 = 0 then (jL_law0_337 q1 q2) else (if (lg_cmp (rJ q1.2.2 20 0 (0 : Int32).toNatClampNeg) q2.1.toInt64) = 0 then (jL_law0_337 q1 q2) else (some (.inr ())))) else (some (.inr ())))))))))))
set_option maxHeartbeats 4000000 in
set_option maxRecDepth 100000 in
theorem okL_law0 {p : Program} {l : Launch} {e : Env} {R : Room} {s : State} {m : MethodId} {args : Array Value} {below : List Frame} {meth : Method} {c : Code} {cy : Nat → ClassId} {D : va_G} {B : Nat} {ek : EK} {Q : State → Prop} (C : Cx p s m args c 9 cy D B ek "HostelBedsLaw" cL_law) (hlf : l.stackTraces = false) (h9 : ¬ cy 9 = 0) (hR9 : R = room_1) {b L : Nat} {xs : Nat → Int32} (hX : va_X b L xs s s.heap) (hbl : b < s.heap.size) (hbA : ¬ aB B b) (nc ns : Nat) (hnc : nc + 8 ≤ R.cells) (hns : ns + 48 ≤ R.slots) (i : Int32) (σ μ ω : Mem) (r9 : (Mem × Mem × Mem) ⊕ Unit) (h : fL_law0 xs L i σ μ ω = some r9) (hcont : ∀ q9, r9 = .inl q9 → ∀ nc2 ns2 : Nat, nc2 ≤ nc + 8 → ns2 ≤ ns + 48 → X p l e R s m args below meth c 9 cy D B nc2 ns2 Q 2861 [(0, .ref b), (1, .ref (B + oHB)), (2, .ref (B + oMd)), (3, .ref (B + oLOut)), (4, .ref (B + oLOutD)), (5, .int i)] [] q9.1 q9.2.1 q9.2.2) (hne : ∀ u, r9 ≠ .inr u) : X p l e R s m args below meth c 9 cy D B nc ns Q 236 [(0, .ref b), (1, .ref (B + oHB)), (2, .ref (B + oMd)), (3, .ref (B + oLOut)), (4, .ref (B + oLOutD)), (5, .int i)] [] σ μ ω := by
  unfold fL_law0 at h
  refine x_aload_n C dL_law_236 rfl 1 rfl ?_
  refine x_aload_n C dL_law_237 rfl 0 rfl ?_
  refine x_iload C dL_law_238 5 rfl ?_
  refine x_iconst C (v := 1) dL_law_240 (by decide) ?_
  refine x_iadd C dL_law_241 ?_
  obtain ⟨hg1, h⟩ := gd_some h
  refine x_sld C hX hbl hbA hg1 dL_law_242 ?_
  refine x_aload_n C dL_law_243 rfl 0 rfl ?_
  refine x_iload C dL_law_244 5 rfl ?_
  refine x_iconst C (v := 2) dL_law_246 (by decide) ?_
  refine x_iadd C dL_law_247 ?_
  obtain ⟨hg2, h⟩ := gd_some h
  refine x_sld C hX hbl hbA hg2 dL_law_248 ?_
  refine x_aload_n C dL_law_249 rfl 0 rfl ?_
  refine x_iload C dL_law_250 5 rfl ?_
  refine x_iconst C (v := 3) dL_law_252 (by decide) ?_
  refine x_iadd C dL_law_253 ?_
  obtain ⟨hg3, h⟩ := gd_some h
  refine x_sld C hX hbl hbA hg3 dL_law_254 ?_
  refine x_aload_n C dL_law_255 rfl 0 rfl ?_
  refine x_iload C dL_law_256 5 rfl ?_
  refine x_iconst C (v := 4) dL_law_258 (by decide) ?_
  refine x_iadd C dL_law_259 ?_
  obtain ⟨hg4, h⟩ := gd_some h
  refine x_sld C hX hbl hbA hg4 dL_law_260 ?_
  refine x_aload_n C dL_law_261 rfl 0 rfl ?_
  refine x_iload C dL_law_262 5 rfl ?_
  refine x_iconst C (v := 5) dL_law_264 (by decide) ?_
  refine x_iadd C dL_law_265 ?_
  obtain ⟨hg5, h⟩ := gd_some h
  refine x_sld C hX hbl hbA hg5 dL_law_266 ?_
  refine x_aload_n C dL_law_267 rfl 3 rfl ?_
  obtain ⟨q1, hk6, h⟩ := Option.bind_eq_some_iff.mp h
  refine x_callSW C (As := [.ref (B + oHB), .int (xs (i + (1 : Int32)).toNatClampNeg), .int (xs (i + (2 : Int32)).toNatClampNeg), .int (xs (i + (3 : Int32)).toNatClampNeg), .int (xs (i + (4 : Int32)).toNatClampNeg), .int (xs (i + (5 : Int32)).toNatClampNeg), .ref (B + oLOut)]) (rest := []) (cells2 := (nc + 1)) (slots2 := (ns + 6)) (lw_g_mk tw_470 rfl) (okL_append_LOut l hlf cy D B ek h9 (xs (i + (1 : Int32)).toNatClampNeg) (xs (i + (2 : Int32)).toNatClampNeg) (xs (i + (3 : Int32)).toNatClampNeg) (xs (i + (4 : Int32)).toNatClampNeg) (xs (i + (5 : Int32)).toNatClampNeg) σ μ ω _ hk6) rfl rfl (by rw [hR9]; decide) (lw_g_mk tw_471 rfl) (lw_g_mk tw_0 rfl) (by decide) rfl (lw_g_mk tw_469 rfl) rfl (Nat.le_of_ble_eq_true rfl) dL_law_268 ⟨by omega, by omega⟩ rfl rfl ?_
  refine x_istore C [(6, .int q1.1), (0, .ref b), (1, .ref (B + oHB)), (2, .ref (B + oMd)), (3, .ref (B + oLOut)), (4, .ref (B + oLOutD)), (5, .int i)] dL_law_271 (by decide) rfl ?_
  refine x_aload_n C dL_law_273 rfl 3 rfl ?_
  refine x_aload_n C dL_law_274 rfl 1 rfl ?_
  refine x_iload C dL_law_275 6 rfl ?_
  refine x_iconst C (v := 1) dL_law_277 (by decide) ?_
  refine x_iadd C dL_law_278 ?_
  refine x_sld C hX hbl hbA hg1 dL_law_279 ?_
  refine x_aload_n C dL_law_280 rfl 1 rfl ?_
  refine x_iload C dL_law_281 6 rfl ?_
  refine x_iconst C (v := 2) dL_law_283 (by decide) ?_
  refine x_iadd C dL_law_284 ?_
  refine x_sld C hX hbl hbA hg2 dL_law_285 ?_
  refine x_aload_n C dL_law_286 rfl 1 rfl ?_
  refine x_iload C dL_law_287 6 rfl ?_
  refine x_iconst C (v := 3) dL_law_289 (by decide) ?_
  refine x_iadd C dL_law_290 ?_
  refine x_sld C hX hbl hbA hg3 dL_law_291 ?_
  refine x_aload_n C dL_law_292 rfl 1 rfl ?_
  refine x_iload C dL_law_293 6 rfl ?_
  refine x_iconst C (v := 4) dL_law_295 (by decide) ?_
  refine x_iadd C dL_law_296 ?_
  refine x_sld C hX hbl hbA hg4 dL_law_297 ?_
  refine x_aload_n C dL_law_298 rfl 1 rfl ?_
  refine x_iload C dL_law_299 6 rfl ?_
  refine x_iconst C (v := 5) dL_law_301 (by decide) ?_
  refine x_iadd C dL_law_302 ?_
  refine x_sld C hX hbl hbA hg5 dL_law_303 ?_
  obtain ⟨q2, hk7, h⟩ := Option.bind_eq_some_iff.mp h
  refine x_callV C (As := [.int (xs (i + (1 : Int32)).toNatClampNeg), .int (xs (i + (2 : Int32)).toNatClampNeg), .int (xs (i + (3 : Int32)).toNatClampNeg), .int (xs (i + (4 : Int32)).toNatClampNeg), .int (xs (i + (5 : Int32)).toNatClampNeg)]) (rest := []) (lw_g_mk tw_1219 rfl) (lw_g_mk tw_1220 rfl) (c_Md) (C1 := "HostelBedsModel") (T := TX6) (N := 27) (ci := 6) rfl (okX6_append l cy D B ek (xs (i + (1 : Int32)).toNatClampNeg) (xs (i + (2 : Int32)).toNatClampNeg) (xs (i + (3 : Int32)).toNatClampNeg) (xs (i + (4 : Int32)).toNatClampNeg) (xs (i + (5 : Int32)).toNatClampNeg) q1.2.1 μ q1.2.2 _ hk7) rfl rfl (by rw [hR9]; decide) (lw_g_mk tw_1221 rfl) (lw_g_mk tw_7 rfl) (by decide) rfl (lw_g_mk tw_1218 rfl) rfl (Nat.le_of_ble_eq_true rfl) dL_law_304 ⟨by omega, by omega⟩ ?_
  refine x_istore C [(7, .int q2.1), (6, .int q1.1), (0, .ref b), (1, .ref (B + oHB)), (2, .ref (B + oMd)), (3, .ref (B + oLOut)), (4, .ref (B + oLOutD)), (5, .int i)] dL_law_307 (by decide) rfl ?_
  refine x_aload_n C dL_law_309 rfl 4 rfl ?_
  obtain ⟨q3, hk8, h⟩ := Option.bind_eq_some_iff.mp h
  refine x_callV C (As := []) (rest := []) (lw_g_mk tw_1215 rfl) (lw_g_mk tw_1216 rfl) (c_Md) (C1 := "HostelBedsModel") (T := TX6) (N := 27) (ci := 6) rfl (okX6_thrown l cy D B ek q1.2.1 q2.2 q1.2.2 _ hk8) rfl rfl (by rw [hR9]; decide) (lw_g_mk tw_1217 rfl) (lw_g_mk tw_7 rfl) (by decide) rfl (lw_g_mk tw_1214 rfl) rfl (Nat.le_of_ble_eq_true rfl) dL_law_310 ⟨by omega, by omega⟩ ?_
  refine x_iload C dL_law_313 1 rfl ?_
  refine x_icmp_eq C (tgt := 320) dL_law_315 (by decide) (fun hc9 => ?_) (fun hc9 => ?_)
  · rw [if_pos hc9] at h
    refine x_iload C dL_law_320 1 rfl ?_
    have hJ10 : ∀ (r9 : (Mem × Mem × Mem) ⊕ Unit), jL_law0_337 q1 q2 = some r9 → (∀ q9, r9 = .inl q9 → ∀ nc2 ns2 : Nat, nc2 ≤ nc + 8 → ns2 ≤ ns + 48 → X p l e R s m args below meth c 9 cy D B nc2 ns2 Q 2861 [(0, .ref b), (1, .ref (B + oHB)), (2, .ref (B + oMd)), (3, .ref (B + oLOut)), (4, .ref (B + oLOutD)), (5, .int i)] [] q9.1 q9.2.1 q9.2.2) → (∀ u, r9 ≠ .inr u) → X p l e R s m args below meth c 9 cy D B (nc + 1) (ns + 6) Q 337 [(0, .ref b), (1, .ref (B + oHB)), (2, .ref (B + oMd)), (3, .ref (B + oLOut)), (4, .ref (B + oLOutD)), (5, .int i)] [] q1.2.1 q2.2 q1.2.2 := by
      intro r9 h hcont hne
      unfold jL_law0_337 at h
      refine x_goto C (tgt := 2861) dL_law_337 (by decide) ?_
      cases h
      exact hcont _ rfl _ _ (by omega) (by omega)
    refine x_if_ne C (tgt := 337) dL_law_322 (by decide) (fun hc11 => ?_) (fun hc11 => ?_)
    · rw [if_pos hc11] at h
      refine x_sub [2, 3, 4, 5, 6, 7] rfl ?_
      exact hJ10 _ h hcont hne
    · rw [if_neg hc11] at h
      refine x_aload_n C dL_law_325 rfl 5 rfl ?_
      refine x_iconst C (v := 0) dL_law_326 (by decide) ?_
      refine x_lald C _ (c_LOut h9) (by decide : inb (0 : Int32) 1) dL_law_327 ?_
      refine x_iload C dL_law_328 0 rfl ?_
      refine x_i2l C dL_law_330 ?_
      refine x_lcmp C dL_law_331 ?_
      refine x_if_eq C (tgt := 337) dL_law_332 (by decide) (fun hc12 => ?_) (fun hc12 => ?_)
      · rw [if_pos hc12] at h
        refine x_sub [2, 3, 4, 5, 6, 7] rfl ?_
        exact hJ10 _ h hcont hne
      · rw [if_neg hc12] at h
        refine x_iconst C (v := 0) dL_law_335 (by decide) ?_
        cases h
        exact absurd rfl (hne ())
  · rw [if_neg hc9] at h
    refine x_iconst C (v := 0) dL_law_318 (by decide) ?_
    cases h
    exact absurd rfl (hne ())
def fL_law1 (xs : Nat → Int32) (L : Nat) (i : Int32) (σ : Mem) (μ : Mem) (ω : Mem) : Option ((Mem × Mem × Mem) ⊕ Unit) := (gd (inb (i + (1 : Int32)) L) ((fL_truncate (xs (i + (1 : Int32)).toNatClampNeg) σ).bind fun q1 => ((fX6_truncate (xs (i + (1 : Int32)).toNatClampNeg) μ).bind fun q2 => ((fX6_thrown q2).bind fun q3 => (if q3 = q1.1 then (some (.inl (q1.2, q2, ω))) else (some (.inr ())))))))
set_option maxHeartbeats 4000000 in
set_option maxRecDepth 100000 in
theorem okL_law1 {p : Program} {l : Launch} {e : Env} {R : Room} {s : State} {m : MethodId} {args : Array Value} {below : List Frame} {meth : Method} {c : Code} {cy : Nat → ClassId} {D : va_G} {B : Nat} {ek : EK} {Q : State → Prop} (C : Cx p s m args c 9 cy D B ek "HostelBedsLaw" cL_law) (hlf : l.stackTraces = false) (h9 : ¬ cy 9 = 0) (hR9 : R = room_1) {b L : Nat} {xs : Nat → Int32} (hX : va_X b L xs s s.heap) (hbl : b < s.heap.size) (hbA : ¬ aB B b) (nc ns : Nat) (hnc : nc + 8 ≤ R.cells) (hns : ns + 48 ≤ R.slots) (i : Int32) (σ μ ω : Mem) (r9 : (Mem × Mem × Mem) ⊕ Unit) (h : fL_law1 xs L i σ μ ω = some r9) (hcont : ∀ q9, r9 = .inl q9 → ∀ nc2 ns2 : Nat, nc2 ≤ nc + 8 → ns2 ≤ ns + 48 → X p l e R s m args below meth c 9 cy D B nc2 ns2 Q 2861 [(0, .ref b), (1, .ref (B + oHB)), (2, .ref (B + oMd)), (3, .ref (B + oLOut)), (4, .ref (B + oLOutD)), (5, .int i)] [] q9.1 q9.2.1 q9.2.2) (hne : ∀ u, r9 ≠ .inr u) : X p l e R s m args below meth c 9 cy D B nc ns Q 340 [(0, .ref b), (1, .ref (B + oHB)), (2, .ref (B + oMd)), (3, .ref (B + oLOut)), (4, .ref (B + oLOutD)), (5, .int i)] [] σ μ ω := by
  unfold fL_law1 at h
  refine x_aload_n C dL_law_340 rfl 1 rfl ?_
  refine x_aload_n C dL_law_341 rfl 0 rfl ?_
  refine x_iload C dL_law_342 5 rfl ?_
  refine x_iconst C (v := 1) dL_law_344 (by decide) ?_
  refine x_iadd C dL_law_345 ?_
  obtain ⟨hg1, h⟩ := gd_some h
  refine x_sld C hX hbl hbA hg1 dL_law_346 ?_
  obtain ⟨q1, hk2, h⟩ := Option.bind_eq_some_iff.mp h
  refine x_callSW C (As := [.ref (B + oHB), .int (xs (i + (1 : Int32)).toNatClampNeg)]) (rest := []) (cells2 := (nc + 1)) (slots2 := (ns + 6)) (lw_g_mk tw_550 rfl) (okL_truncate l hlf cy D B ek h9 (xs (i + (1 : Int32)).toNatClampNeg) σ μ ω _ hk2) rfl rfl (by rw [hR9]; decide) (lw_g_mk tw_551 rfl) (lw_g_mk tw_0 rfl) (by decide) rfl (lw_g_mk tw_549 rfl) rfl (Nat.le_of_ble_eq_true rfl) dL_law_347 ⟨by omega, by omega⟩ rfl rfl ?_
  refine x_istore C [(6, .int q1.1), (0, .ref b), (1, .ref (B + oHB)), (2, .ref (B + oMd)), (3, .ref (B + oLOut)), (4, .ref (B + oLOutD)), (5, .int i)] dL_law_350 (by decide) rfl ?_
  refine x_aload_n C dL_law_352 rfl 3 rfl ?_
  refine x_aload_n C dL_law_353 rfl 1 rfl ?_
  refine x_iload C dL_law_354 6 rfl ?_
  refine x_iconst C (v := 1) dL_law_356 (by decide) ?_
  refine x_iadd C dL_law_357 ?_
  refine x_sld C hX hbl hbA hg1 dL_law_358 ?_
  obtain ⟨q2, hk3, h⟩ := Option.bind_eq_some_iff.mp h
  refine x_callV C (As := [.int (xs (i + (1 : Int32)).toNatClampNeg)]) (rest := []) (lw_g_mk tw_1231 rfl) (lw_g_mk tw_1232 rfl) (c_Md) (C1 := "HostelBedsModel") (T := TX6) (N := 27) (ci := 6) rfl (okX6_truncate l cy D B ek (xs (i + (1 : Int32)).toNatClampNeg) q1.2 μ ω _ hk3) rfl rfl (by rw [hR9]; decide) (lw_g_mk tw_1233 rfl) (lw_g_mk tw_7 rfl) (by decide) rfl (lw_g_mk tw_1230 rfl) rfl (Nat.le_of_ble_eq_true rfl) dL_law_359 ⟨by omega, by omega⟩ ?_
  refine x_aload_n C dL_law_362 rfl 3 rfl ?_
  obtain ⟨q3, hk4, h⟩ := Option.bind_eq_some_iff.mp h
  refine x_callV C (As := []) (rest := []) (lw_g_mk tw_1215 rfl) (lw_g_mk tw_1216 rfl) (c_Md) (C1 := "HostelBedsModel") (T := TX6) (N := 27) (ci := 6) rfl (okX6_thrown l cy D B ek q1.2 q2 ω _ hk4) rfl rfl (by rw [hR9]; decide) (lw_g_mk tw_1217 rfl) (lw_g_mk tw_7 rfl) (by decide) rfl (lw_g_mk tw_1214 rfl) rfl (Nat.le_of_ble_eq_true rfl) dL_law_363 ⟨by omega, by omega⟩ ?_
  refine x_iload C dL_law_366 0 rfl ?_
  refine x_icmp_eq C (tgt := 373) dL_law_368 (by decide) (fun hc5 => ?_) (fun hc5 => ?_)
  · rw [if_pos hc5] at h
    refine x_goto C (tgt := 2861) dL_law_373 (by decide) ?_
    cases h
    refine x_sub [1, 2, 3, 4, 5, 6] rfl ?_
    exact hcont _ rfl _ _ (by omega) (by omega)
  · rw [if_neg hc5] at h
    refine x_iconst C (v := 0) dL_law_371 (by decide) ?_
    cases h
    exact absurd rfl (hne ())
def jL_law2_417 (q1 : Int32 × Mem × Mem) (q2 : Int32 × Mem) : Option ((Mem × Mem × Mem) ⊕ Unit) := (some (.inl (q1.2.1, q2.2, q1.2.2)))
def fL_law2 (xs : Nat → Int32) (L : Nat) (i : Int32) (σ : Mem) (μ : Mem) (ω : Mem) : Option ((Mem × Mem × Mem) ⊕ Unit) := ((fL_load_LOut σ ω).bind fun q1 => ((fX6_load μ).bind fun q2 => ((fX6_thrown q2.2).bind fun q3 => (if q3 = q1.1 then (if ¬ q1.1 = 0 then (jL_law2_417 q1 q2) else (if (lg_cmp (rJ q1.2.2 20 0 (0 : Int32).toNatClampNeg) q2.1.toInt64) = 0 then (jL_law2_417 q1 q2) else (some (.inr ())))) else (some (.inr ()))))))
set_option maxHeartbeats 4000000 in
set_option maxRecDepth 100000 in
theorem okL_law2 {p : Program} {l : Launch} {e : Env} {R : Room} {s : State} {m : MethodId} {args : Array Value} {below : List Frame} {meth : Method} {c : Code} {cy : Nat → ClassId} {D : va_G} {B : Nat} {ek : EK} {Q : State → Prop} (C : Cx p s m args c 9 cy D B ek "HostelBedsLaw" cL_law) (hlf : l.stackTraces = false) (h9 : ¬ cy 9 = 0) (hR9 : R = room_1) {b L : Nat} {xs : Nat → Int32} (hX : va_X b L xs s s.heap) (hbl : b < s.heap.size) (hbA : ¬ aB B b) (nc ns : Nat) (hnc : nc + 8 ≤ R.cells) (hns : ns + 48 ≤ R.slots) (i : Int32) (σ μ ω : Mem) (r9 : (Mem × Mem × Mem) ⊕ Unit) (h : fL_law2 xs L i σ μ ω = some r9) (hcont : ∀ q9, r9 = .inl q9 → ∀ nc2 ns2 : Nat, nc2 ≤ nc + 8 → ns2 ≤ ns + 48 → X p l e R s m args below meth c 9 cy D B nc2 ns2 Q 2861 [(0, .ref b), (1, .ref (B + oHB)), (2, .ref (B + oMd)), (3, .ref (B + oLOut)), (4, .ref (B + oLOutD)), (5, .int i)] [] q9.1 q9.2.1 q9.2.2) (hne : ∀ u, r9 ≠ .inr u) : X p l e R s m args below meth c 9 cy D B nc ns Q 376 [(0, .ref b), (1, .ref (B + oHB)), (2, .ref (B + oMd)), (3, .ref (B + oLOut)), (4, .ref (B + oLOutD)), (5, .int i)] [] σ μ ω := by
  unfold fL_law2 at h
  refine x_aload_n C dL_law_376 rfl 1 rfl ?_
  refine x_aload_n C dL_law_377 rfl 3 rfl ?_
  obtain ⟨q1, hk1, h⟩ := Option.bind_eq_some_iff.mp h
  refine x_callSW C (As := [.ref (B + oHB), .ref (B + oLOut)]) (rest := []) (cells2 := (nc + 1)) (slots2 := (ns + 6)) (lw_g_mk tw_574 rfl) (okL_load_LOut l hlf cy D B ek h9 σ μ ω _ hk1) rfl rfl (by rw [hR9]; decide) (lw_g_mk tw_575 rfl) (lw_g_mk tw_0 rfl) (by decide) rfl (lw_g_mk tw_573 rfl) rfl (Nat.le_of_ble_eq_true rfl) dL_law_378 ⟨by omega, by omega⟩ rfl rfl ?_
  refine x_istore C [(6, .int q1.1), (0, .ref b), (1, .ref (B + oHB)), (2, .ref (B + oMd)), (3, .ref (B + oLOut)), (4, .ref (B + oLOutD)), (5, .int i)] dL_law_381 (by decide) rfl ?_
  refine x_aload_n C dL_law_383 rfl 3 rfl ?_
  obtain ⟨q2, hk2, h⟩ := Option.bind_eq_some_iff.mp h
  refine x_callV C (As := []) (rest := []) (lw_g_mk tw_1238 rfl) (lw_g_mk tw_1239 rfl) (c_Md) (C1 := "HostelBedsModel") (T := TX6) (N := 27) (ci := 6) rfl (okX6_load l cy D B ek q1.2.1 μ q1.2.2 _ hk2) rfl rfl (by rw [hR9]; decide) (lw_g_mk tw_1240 rfl) (lw_g_mk tw_7 rfl) (by decide) rfl (lw_g_mk tw_1237 rfl) rfl (Nat.le_of_ble_eq_true rfl) dL_law_384 ⟨by omega, by omega⟩ ?_
  refine x_istore C [(7, .int q2.1), (6, .int q1.1), (0, .ref b), (1, .ref (B + oHB)), (2, .ref (B + oMd)), (3, .ref (B + oLOut)), (4, .ref (B + oLOutD)), (5, .int i)] dL_law_387 (by decide) rfl ?_
  refine x_aload_n C dL_law_389 rfl 4 rfl ?_
  obtain ⟨q3, hk3, h⟩ := Option.bind_eq_some_iff.mp h
  refine x_callV C (As := []) (rest := []) (lw_g_mk tw_1215 rfl) (lw_g_mk tw_1216 rfl) (c_Md) (C1 := "HostelBedsModel") (T := TX6) (N := 27) (ci := 6) rfl (okX6_thrown l cy D B ek q1.2.1 q2.2 q1.2.2 _ hk3) rfl rfl (by rw [hR9]; decide) (lw_g_mk tw_1217 rfl) (lw_g_mk tw_7 rfl) (by decide) rfl (lw_g_mk tw_1214 rfl) rfl (Nat.le_of_ble_eq_true rfl) dL_law_390 ⟨by omega, by omega⟩ ?_
  refine x_iload C dL_law_393 1 rfl ?_
  refine x_icmp_eq C (tgt := 400) dL_law_395 (by decide) (fun hc4 => ?_) (fun hc4 => ?_)
  · rw [if_pos hc4] at h
    refine x_iload C dL_law_400 1 rfl ?_
    have hJ5 : ∀ (r9 : (Mem × Mem × Mem) ⊕ Unit), jL_law2_417 q1 q2 = some r9 → (∀ q9, r9 = .inl q9 → ∀ nc2 ns2 : Nat, nc2 ≤ nc + 8 → ns2 ≤ ns + 48 → X p l e R s m args below meth c 9 cy D B nc2 ns2 Q 2861 [(0, .ref b), (1, .ref (B + oHB)), (2, .ref (B + oMd)), (3, .ref (B + oLOut)), (4, .ref (B + oLOutD)), (5, .int i)] [] q9.1 q9.2.1 q9.2.2) → (∀ u, r9 ≠ .inr u) → X p l e R s m args below meth c 9 cy D B (nc + 1) (ns + 6) Q 417 [(0, .ref b), (1, .ref (B + oHB)), (2, .ref (B + oMd)), (3, .ref (B + oLOut)), (4, .ref (B + oLOutD)), (5, .int i)] [] q1.2.1 q2.2 q1.2.2 := by
      intro r9 h hcont hne
      unfold jL_law2_417 at h
      refine x_goto C (tgt := 2861) dL_law_417 (by decide) ?_
      cases h
      exact hcont _ rfl _ _ (by omega) (by omega)
    refine x_if_ne C (tgt := 417) dL_law_402 (by decide) (fun hc6 => ?_) (fun hc6 => ?_)
    · rw [if_pos hc6] at h
      refine x_sub [2, 3, 4, 5, 6, 7] rfl ?_
      exact hJ5 _ h hcont hne
    · rw [if_neg hc6] at h
      refine x_aload_n C dL_law_405 rfl 5 rfl ?_
      refine x_iconst C (v := 0) dL_law_406 (by decide) ?_
      refine x_lald C _ (c_LOut h9) (by decide : inb (0 : Int32) 1) dL_law_407 ?_
      refine x_iload C dL_law_408 0 rfl ?_
      refine x_i2l C dL_law_410 ?_
      refine x_lcmp C dL_law_411 ?_
      refine x_if_eq C (tgt := 417) dL_law_412 (by decide) (fun hc7 => ?_) (fun hc7 => ?_)
      · rw [if_pos hc7] at h
        refine x_sub [2, 3, 4, 5, 6, 7] rfl ?_
        exact hJ5 _ h hcont hne
      · rw [if_neg hc7] at h
        refine x_iconst C (v := 0) dL_law_415 (by decide) ?_
        cases h
        exact absurd rfl (hne ())
  · rw [if_neg hc4] at h
    refine x_iconst C (v := 0) dL_law_398 (by decide) ?_
    cases h
    exact absurd rfl (hne ())
def fL_law3 (xs : Nat → Int32) (L : Nat) (i : Int32) (σ : Mem) (μ : Mem) (ω : Mem) : Option ((Mem × Mem × Mem) ⊕ Unit) := ((fX5_errorOffset σ).bind fun q1 => ((fX6_errorOffset μ).bind fun q2 => (if q1 = q2.1 then (some (.inl (σ, q2.2, ω))) else (some (.inr ())))))
set_option maxHeartbeats 4000000 in
set_option maxRecDepth 100000 in
theorem okL_law3 {p : Program} {l : Launch} {e : Env} {R : Room} {s : State} {m : MethodId} {args : Array Value} {below : List Frame} {meth : Method} {c : Code} {cy : Nat → ClassId} {D : va_G} {B : Nat} {ek : EK} {Q : State → Prop} (C : Cx p s m args c 9 cy D B ek "HostelBedsLaw" cL_law) (hlf : l.stackTraces = false) (h9 : ¬ cy 9 = 0) (hR9 : R = room_1) {b L : Nat} {xs : Nat → Int32} (hX : va_X b L xs s s.heap) (hbl : b < s.heap.size) (hbA : ¬ aB B b) (nc ns : Nat) (hnc : nc + 8 ≤ R.cells) (hns : ns + 48 ≤ R.slots) (i : Int32) (σ μ ω : Mem) (r9 : (Mem × Mem × Mem) ⊕ Unit) (h : fL_law3 xs L i σ μ ω = some r9) (hcont : ∀ q9, r9 = .inl q9 → ∀ nc2 ns2 : Nat, nc2 ≤ nc + 8 → ns2 ≤ ns + 48 → X p l e R s m args below meth c 9 cy D B nc2 ns2 Q 2861 [(0, .ref b), (1, .ref (B + oHB)), (2, .ref (B + oMd)), (3, .ref (B + oLOut)), (4, .ref (B + oLOutD)), (5, .int i)] [] q9.1 q9.2.1 q9.2.2) (hne : ∀ u, r9 ≠ .inr u) : X p l e R s m args below meth c 9 cy D B nc ns Q 420 [(0, .ref b), (1, .ref (B + oHB)), (2, .ref (B + oMd)), (3, .ref (B + oLOut)), (4, .ref (B + oLOutD)), (5, .int i)] [] σ μ ω := by
  unfold fL_law3 at h
  refine x_aload_n C dL_law_420 rfl 1 rfl ?_
  obtain ⟨q1, hk1, h⟩ := Option.bind_eq_some_iff.mp h
  refine x_callV C (As := []) (rest := []) (lw_g_mk tw_327 rfl) (lw_g_mk tw_328 rfl) (c_HB) (C1 := "HostelBeds") (T := TX5) (N := 12) (ci := 5) rfl (okX5_errorOffset l cy D B ek σ μ ω _ hk1) rfl rfl (by rw [hR9]; decide) (lw_g_mk tw_329 rfl) (lw_g_mk tw_1 rfl) (by decide) rfl (lw_g_mk tw_326 rfl) rfl (Nat.le_of_ble_eq_true rfl) dL_law_421 ⟨by omega, by omega⟩ ?_
  refine x_aload_n C dL_law_424 rfl 2 rfl ?_
  obtain ⟨q2, hk2, h⟩ := Option.bind_eq_some_iff.mp h
  refine x_callV C (As := []) (rest := [.int q1]) (lw_g_mk tw_1402 rfl) (lw_g_mk tw_1403 rfl) (c_Md) (C1 := "HostelBedsModel") (T := TX6) (N := 27) (ci := 6) rfl (okX6_errorOffset l cy D B ek σ μ ω _ hk2) rfl rfl (by rw [hR9]; decide) (lw_g_mk tw_1404 rfl) (lw_g_mk tw_7 rfl) (by decide) rfl (lw_g_mk tw_1401 rfl) rfl (Nat.le_of_ble_eq_true rfl) dL_law_425 ⟨by omega, by omega⟩ ?_
  refine x_icmp_eq C (tgt := 2861) dL_law_428 (by decide) (fun hc3 => ?_) (fun hc3 => ?_)
  · rw [if_pos hc3] at h
    cases h
    exact hcont _ rfl _ _ (by omega) (by omega)
  · rw [if_neg hc3] at h
    refine x_iconst C (v := 0) dL_law_431 (by decide) ?_
    cases h
    exact absurd rfl (hne ())
def jL_law4_486 (σ : Mem) (q2 : Int32 × Mem) (q1 : Int32 × Mem) : Option ((Mem × Mem × Mem) ⊕ Unit) := (some (.inl (σ, q2.2, q1.2)))
def fL_law4 (xs : Nat → Int32) (L : Nat) (i : Int32) (σ : Mem) (μ : Mem) (ω : Mem) : Option ((Mem × Mem × Mem) ⊕ Unit) := (gd (inb (i + (1 : Int32)) L) ((fL_count_LOut (xs (i + (1 : Int32)).toNatClampNeg) σ ω).bind fun q1 => ((fX6_count (xs (i + (1 : Int32)).toNatClampNeg) μ).bind fun q2 => ((fX6_thrown q2.2).bind fun q3 => (if q3 = q1.1 then (if ¬ q1.1 = 0 then (jL_law4_486 σ q2 q1) else (if (lg_cmp (rJ q1.2 20 0 (0 : Int32).toNatClampNeg) q2.1.toInt64) = 0 then (jL_law4_486 σ q2 q1) else (some (.inr ())))) else (some (.inr ())))))))
set_option maxHeartbeats 4000000 in
set_option maxRecDepth 100000 in
theorem okL_law4 {p : Program} {l : Launch} {e : Env} {R : Room} {s : State} {m : MethodId} {args : Array Value} {below : List Frame} {meth : Method} {c : Code} {cy : Nat → ClassId} {D : va_G} {B : Nat} {ek : EK} {Q : State → Prop} (C : Cx p s m args c 9 cy D B ek "HostelBedsLaw" cL_law) (hlf : l.stackTraces = false) (h9 : ¬ cy 9 = 0) (hR9 : R = room_1) {b L : Nat} {xs : Nat → Int32} (hX : va_X b L xs s s.heap) (hbl : b < s.heap.size) (hbA : ¬ aB B b) (nc ns : Nat) (hnc : nc + 8 ≤ R.cells) (hns : ns + 48 ≤ R.slots) (i : Int32) (σ μ ω : Mem) (r9 : (Mem × Mem × Mem) ⊕ Unit) (h : fL_law4 xs L i σ μ ω = some r9) (hcont : ∀ q9, r9 = .inl q9 → ∀ nc2 ns2 : Nat, nc2 ≤ nc + 8 → ns2 ≤ ns + 48 → X p l e R s m args below meth c 9 cy D B nc2 ns2 Q 2861 [(0, .ref b), (1, .ref (B + oHB)), (2, .ref (B + oMd)), (3, .ref (B + oLOut)), (4, .ref (B + oLOutD)), (5, .int i)] [] q9.1 q9.2.1 q9.2.2) (hne : ∀ u, r9 ≠ .inr u) : X p l e R s m args below meth c 9 cy D B nc ns Q 433 [(0, .ref b), (1, .ref (B + oHB)), (2, .ref (B + oMd)), (3, .ref (B + oLOut)), (4, .ref (B + oLOutD)), (5, .int i)] [] σ μ ω := by
  unfold fL_law4 at h
  refine x_aload_n C dL_law_433 rfl 1 rfl ?_
  refine x_aload_n C dL_law_434 rfl 0 rfl ?_
  refine x_iload C dL_law_435 5 rfl ?_
  refine x_iconst C (v := 1) dL_law_437 (by decide) ?_
  refine x_iadd C dL_law_438 ?_
  obtain ⟨hg1, h⟩ := gd_some h
  refine x_sld C hX hbl hbA hg1 dL_law_439 ?_
  refine x_aload_n C dL_law_440 rfl 3 rfl ?_
  obtain ⟨q1, hk2, h⟩ := Option.bind_eq_some_iff.mp h
  refine x_callSW C (As := [.ref (B + oHB), .int (xs (i + (1 : Int32)).toNatClampNeg), .ref (B + oLOut)]) (rest := []) (cells2 := (nc + 1)) (slots2 := (ns + 6)) (lw_g_mk tw_731 rfl) (okL_count_LOut l hlf cy D B ek h9 (xs (i + (1 : Int32)).toNatClampNeg) σ μ ω _ hk2) rfl rfl (by rw [hR9]; decide) (lw_g_mk tw_732 rfl) (lw_g_mk tw_0 rfl) (by decide) rfl (lw_g_mk tw_730 rfl) rfl (Nat.le_of_ble_eq_true rfl) dL_law_441 ⟨by omega, by omega⟩ rfl rfl ?_
  refine x_istore C [(6, .int q1.1), (0, .ref b), (1, .ref (B + oHB)), (2, .ref (B + oMd)), (3, .ref (B + oLOut)), (4, .ref (B + oLOutD)), (5, .int i)] dL_law_444 (by decide) rfl ?_
  refine x_aload_n C dL_law_446 rfl 3 rfl ?_
  refine x_aload_n C dL_law_447 rfl 1 rfl ?_
  refine x_iload C dL_law_448 6 rfl ?_
  refine x_iconst C (v := 1) dL_law_450 (by decide) ?_
  refine x_iadd C dL_law_451 ?_
  refine x_sld C hX hbl hbA hg1 dL_law_452 ?_
  obtain ⟨q2, hk3, h⟩ := Option.bind_eq_some_iff.mp h
  refine x_callV C (As := [.int (xs (i + (1 : Int32)).toNatClampNeg)]) (rest := []) (lw_g_mk tw_1406 rfl) (lw_g_mk tw_1407 rfl) (c_Md) (C1 := "HostelBedsModel") (T := TX6) (N := 27) (ci := 6) rfl (okX6_count l cy D B ek (xs (i + (1 : Int32)).toNatClampNeg) σ μ q1.2 _ hk3) rfl rfl (by rw [hR9]; decide) (lw_g_mk tw_1408 rfl) (lw_g_mk tw_7 rfl) (by decide) rfl (lw_g_mk tw_1405 rfl) rfl (Nat.le_of_ble_eq_true rfl) dL_law_453 ⟨by omega, by omega⟩ ?_
  refine x_istore C [(7, .int q2.1), (6, .int q1.1), (0, .ref b), (1, .ref (B + oHB)), (2, .ref (B + oMd)), (3, .ref (B + oLOut)), (4, .ref (B + oLOutD)), (5, .int i)] dL_law_456 (by decide) rfl ?_
  refine x_aload_n C dL_law_458 rfl 4 rfl ?_
  obtain ⟨q3, hk4, h⟩ := Option.bind_eq_some_iff.mp h
  refine x_callV C (As := []) (rest := []) (lw_g_mk tw_1215 rfl) (lw_g_mk tw_1216 rfl) (c_Md) (C1 := "HostelBedsModel") (T := TX6) (N := 27) (ci := 6) rfl (okX6_thrown l cy D B ek σ q2.2 q1.2 _ hk4) rfl rfl (by rw [hR9]; decide) (lw_g_mk tw_1217 rfl) (lw_g_mk tw_7 rfl) (by decide) rfl (lw_g_mk tw_1214 rfl) rfl (Nat.le_of_ble_eq_true rfl) dL_law_459 ⟨by omega, by omega⟩ ?_
  refine x_iload C dL_law_462 1 rfl ?_
  refine x_icmp_eq C (tgt := 469) dL_law_464 (by decide) (fun hc5 => ?_) (fun hc5 => ?_)
  · rw [if_pos hc5] at h
    refine x_iload C dL_law_469 1 rfl ?_
    have hJ6 : ∀ (r9 : (Mem × Mem × Mem) ⊕ Unit), jL_law4_486 σ q2 q1 = some r9 → (∀ q9, r9 = .inl q9 → ∀ nc2 ns2 : Nat, nc2 ≤ nc + 8 → ns2 ≤ ns + 48 → X p l e R s m args below meth c 9 cy D B nc2 ns2 Q 2861 [(0, .ref b), (1, .ref (B + oHB)), (2, .ref (B + oMd)), (3, .ref (B + oLOut)), (4, .ref (B + oLOutD)), (5, .int i)] [] q9.1 q9.2.1 q9.2.2) → (∀ u, r9 ≠ .inr u) → X p l e R s m args below meth c 9 cy D B (nc + 1) (ns + 6) Q 486 [(0, .ref b), (1, .ref (B + oHB)), (2, .ref (B + oMd)), (3, .ref (B + oLOut)), (4, .ref (B + oLOutD)), (5, .int i)] [] σ q2.2 q1.2 := by
      intro r9 h hcont hne
      unfold jL_law4_486 at h
      refine x_goto C (tgt := 2861) dL_law_486 (by decide) ?_
      cases h
      exact hcont _ rfl _ _ (by omega) (by omega)
    refine x_if_ne C (tgt := 486) dL_law_471 (by decide) (fun hc7 => ?_) (fun hc7 => ?_)
    · rw [if_pos hc7] at h
      refine x_sub [2, 3, 4, 5, 6, 7] rfl ?_
      exact hJ6 _ h hcont hne
    · rw [if_neg hc7] at h
      refine x_aload_n C dL_law_474 rfl 5 rfl ?_
      refine x_iconst C (v := 0) dL_law_475 (by decide) ?_
      refine x_lald C _ (c_LOut h9) (by decide : inb (0 : Int32) 1) dL_law_476 ?_
      refine x_iload C dL_law_477 0 rfl ?_
      refine x_i2l C dL_law_479 ?_
      refine x_lcmp C dL_law_480 ?_
      refine x_if_eq C (tgt := 486) dL_law_481 (by decide) (fun hc8 => ?_) (fun hc8 => ?_)
      · rw [if_pos hc8] at h
        refine x_sub [2, 3, 4, 5, 6, 7] rfl ?_
        exact hJ6 _ h hcont hne
      · rw [if_neg hc8] at h
        refine x_iconst C (v := 0) dL_law_484 (by decide) ?_
        cases h
        exact absurd rfl (hne ())
  · rw [if_neg hc5] at h
    refine x_iconst C (v := 0) dL_law_467 (by decide) ?_
    cases h
    exact absurd rfl (hne ())
def jL_law5_542 (σ : Mem) (q2 : Int32 × Mem) (q1 : Int32 × Mem) : Option ((Mem × Mem × Mem) ⊕ Unit) := (some (.inl (σ, q2.2, q1.2)))
def fL_law5 (xs : Nat → Int32) (L : Nat) (i : Int32) (σ : Mem) (μ : Mem) (ω : Mem) : Option ((Mem × Mem × Mem) ⊕ Unit) := (gd (inb (i + (1 : Int32)) L) ((fL_setting_LOut (xs (i + (1 : Int32)).toNatClampNeg) σ ω).bind fun q1 => ((fX6_setting (xs (i + (1 : Int32)).toNatClampNeg) μ).bind fun q2 => ((fX6_thrown q2.2).bind fun q3 => (if q3 = q1.1 then (if ¬ q1.1 = 0 then (jL_law5_542 σ q2 q1) else (if (lg_cmp (rJ q1.2 20 0 (0 : Int32).toNatClampNeg) q2.1.toInt64) = 0 then (jL_law5_542 σ q2 q1) else (some (.inr ())))) else (some (.inr ())))))))
set_option maxHeartbeats 4000000 in
set_option maxRecDepth 100000 in
theorem okL_law5 {p : Program} {l : Launch} {e : Env} {R : Room} {s : State} {m : MethodId} {args : Array Value} {below : List Frame} {meth : Method} {c : Code} {cy : Nat → ClassId} {D : va_G} {B : Nat} {ek : EK} {Q : State → Prop} (C : Cx p s m args c 9 cy D B ek "HostelBedsLaw" cL_law) (hlf : l.stackTraces = false) (h9 : ¬ cy 9 = 0) (hR9 : R = room_1) {b L : Nat} {xs : Nat → Int32} (hX : va_X b L xs s s.heap) (hbl : b < s.heap.size) (hbA : ¬ aB B b) (nc ns : Nat) (hnc : nc + 8 ≤ R.cells) (hns : ns + 48 ≤ R.slots) (i : Int32) (σ μ ω : Mem) (r9 : (Mem × Mem × Mem) ⊕ Unit) (h : fL_law5 xs L i σ μ ω = some r9) (hcont : ∀ q9, r9 = .inl q9 → ∀ nc2 ns2 : Nat, nc2 ≤ nc + 8 → ns2 ≤ ns + 48 → X p l e R s m args below meth c 9 cy D B nc2 ns2 Q 2861 [(0, .ref b), (1, .ref (B + oHB)), (2, .ref (B + oMd)), (3, .ref (B + oLOut)), (4, .ref (B + oLOutD)), (5, .int i)] [] q9.1 q9.2.1 q9.2.2) (hne : ∀ u, r9 ≠ .inr u) : X p l e R s m args below meth c 9 cy D B nc ns Q 489 [(0, .ref b), (1, .ref (B + oHB)), (2, .ref (B + oMd)), (3, .ref (B + oLOut)), (4, .ref (B + oLOutD)), (5, .int i)] [] σ μ ω := by
  unfold fL_law5 at h
  refine x_aload_n C dL_law_489 rfl 1 rfl ?_
  refine x_aload_n C dL_law_490 rfl 0 rfl ?_
  refine x_iload C dL_law_491 5 rfl ?_
  refine x_iconst C (v := 1) dL_law_493 (by decide) ?_
  refine x_iadd C dL_law_494 ?_
  obtain ⟨hg1, h⟩ := gd_some h
  refine x_sld C hX hbl hbA hg1 dL_law_495 ?_
  refine x_aload_n C dL_law_496 rfl 3 rfl ?_
  obtain ⟨q1, hk2, h⟩ := Option.bind_eq_some_iff.mp h
  refine x_callSW C (As := [.ref (B + oHB), .int (xs (i + (1 : Int32)).toNatClampNeg), .ref (B + oLOut)]) (rest := []) (cells2 := (nc + 1)) (slots2 := (ns + 6)) (lw_g_mk tw_743 rfl) (okL_setting_LOut l hlf cy D B ek h9 (xs (i + (1 : Int32)).toNatClampNeg) σ μ ω _ hk2) rfl rfl (by rw [hR9]; decide) (lw_g_mk tw_744 rfl) (lw_g_mk tw_0 rfl) (by decide) rfl (lw_g_mk tw_742 rfl) rfl (Nat.le_of_ble_eq_true rfl) dL_law_497 ⟨by omega, by omega⟩ rfl rfl ?_
  refine x_istore C [(6, .int q1.1), (0, .ref b), (1, .ref (B + oHB)), (2, .ref (B + oMd)), (3, .ref (B + oLOut)), (4, .ref (B + oLOutD)), (5, .int i)] dL_law_500 (by decide) rfl ?_
  refine x_aload_n C dL_law_502 rfl 3 rfl ?_
  refine x_aload_n C dL_law_503 rfl 1 rfl ?_
  refine x_iload C dL_law_504 6 rfl ?_
  refine x_iconst C (v := 1) dL_law_506 (by decide) ?_
  refine x_iadd C dL_law_507 ?_
  refine x_sld C hX hbl hbA hg1 dL_law_508 ?_
  obtain ⟨q2, hk3, h⟩ := Option.bind_eq_some_iff.mp h
  refine x_callV C (As := [.int (xs (i + (1 : Int32)).toNatClampNeg)]) (rest := []) (lw_g_mk tw_1414 rfl) (lw_g_mk tw_1415 rfl) (c_Md) (C1 := "HostelBedsModel") (T := TX6) (N := 27) (ci := 6) rfl (okX6_setting l cy D B ek (xs (i + (1 : Int32)).toNatClampNeg) σ μ q1.2 _ hk3) rfl rfl (by rw [hR9]; decide) (lw_g_mk tw_1416 rfl) (lw_g_mk tw_7 rfl) (by decide) rfl (lw_g_mk tw_1413 rfl) rfl (Nat.le_of_ble_eq_true rfl) dL_law_509 ⟨by omega, by omega⟩ ?_
  refine x_istore C [(7, .int q2.1), (6, .int q1.1), (0, .ref b), (1, .ref (B + oHB)), (2, .ref (B + oMd)), (3, .ref (B + oLOut)), (4, .ref (B + oLOutD)), (5, .int i)] dL_law_512 (by decide) rfl ?_
  refine x_aload_n C dL_law_514 rfl 4 rfl ?_
  obtain ⟨q3, hk4, h⟩ := Option.bind_eq_some_iff.mp h
  refine x_callV C (As := []) (rest := []) (lw_g_mk tw_1215 rfl) (lw_g_mk tw_1216 rfl) (c_Md) (C1 := "HostelBedsModel") (T := TX6) (N := 27) (ci := 6) rfl (okX6_thrown l cy D B ek σ q2.2 q1.2 _ hk4) rfl rfl (by rw [hR9]; decide) (lw_g_mk tw_1217 rfl) (lw_g_mk tw_7 rfl) (by decide) rfl (lw_g_mk tw_1214 rfl) rfl (Nat.le_of_ble_eq_true rfl) dL_law_515 ⟨by omega, by omega⟩ ?_
  refine x_iload C dL_law_518 1 rfl ?_
  refine x_icmp_eq C (tgt := 525) dL_law_520 (by decide) (fun hc5 => ?_) (fun hc5 => ?_)
  · rw [if_pos hc5] at h
    refine x_iload C dL_law_525 1 rfl ?_
    have hJ6 : ∀ (r9 : (Mem × Mem × Mem) ⊕ Unit), jL_law5_542 σ q2 q1 = some r9 → (∀ q9, r9 = .inl q9 → ∀ nc2 ns2 : Nat, nc2 ≤ nc + 8 → ns2 ≤ ns + 48 → X p l e R s m args below meth c 9 cy D B nc2 ns2 Q 2861 [(0, .ref b), (1, .ref (B + oHB)), (2, .ref (B + oMd)), (3, .ref (B + oLOut)), (4, .ref (B + oLOutD)), (5, .int i)] [] q9.1 q9.2.1 q9.2.2) → (∀ u, r9 ≠ .inr u) → X p l e R s m args below meth c 9 cy D B (nc + 1) (ns + 6) Q 542 [(0, .ref b), (1, .ref (B + oHB)), (2, .ref (B + oMd)), (3, .ref (B + oLOut)), (4, .ref (B + oLOutD)), (5, .int i)] [] σ q2.2 q1.2 := by
      intro r9 h hcont hne
      unfold jL_law5_542 at h
      refine x_goto C (tgt := 2861) dL_law_542 (by decide) ?_
      cases h
      exact hcont _ rfl _ _ (by omega) (by omega)
    refine x_if_ne C (tgt := 542) dL_law_527 (by decide) (fun hc7 => ?_) (fun hc7 => ?_)
    · rw [if_pos hc7] at h
      refine x_sub [2, 3, 4, 5, 6, 7] rfl ?_
      exact hJ6 _ h hcont hne
    · rw [if_neg hc7] at h
      refine x_aload_n C dL_law_530 rfl 5 rfl ?_
      refine x_iconst C (v := 0) dL_law_531 (by decide) ?_
      refine x_lald C _ (c_LOut h9) (by decide : inb (0 : Int32) 1) dL_law_532 ?_
      refine x_iload C dL_law_533 0 rfl ?_
      refine x_i2l C dL_law_535 ?_
      refine x_lcmp C dL_law_536 ?_
      refine x_if_eq C (tgt := 542) dL_law_537 (by decide) (fun hc8 => ?_) (fun hc8 => ?_)
      · rw [if_pos hc8] at h
        refine x_sub [2, 3, 4, 5, 6, 7] rfl ?_
        exact hJ6 _ h hcont hne
      · rw [if_neg hc8] at h
        refine x_iconst C (v := 0) dL_law_540 (by decide) ?_
        cases h
        exact absurd rfl (hne ())
  · rw [if_neg hc5] at h
    refine x_iconst C (v := 0) dL_law_523 (by decide) ?_
    cases h
    exact absurd rfl (hne ())
def jL_law6_610 (σ : Mem) (q2 : Int32 × Mem) (q1 : Int32 × Mem) : Option ((Mem × Mem × Mem) ⊕ Unit) := (some (.inl (σ, q2.2, q1.2)))
def fL_law6 (xs : Nat → Int32) (L : Nat) (i : Int32) (σ : Mem) (μ : Mem) (ω : Mem) : Option ((Mem × Mem × Mem) ⊕ Unit) := (gd (inb (i + (1 : Int32)) L) (gd (inb (i + (2 : Int32)) L) ((fL_room_LOut (xs (i + (1 : Int32)).toNatClampNeg) (xs (i + (2 : Int32)).toNatClampNeg) σ ω).bind fun q1 => ((fX6_room (xs (i + (1 : Int32)).toNatClampNeg) (xs (i + (2 : Int32)).toNatClampNeg) μ).bind fun q2 => ((fX6_thrown q2.2).bind fun q3 => (if q3 = q1.1 then (if ¬ q1.1 = 0 then (jL_law6_610 σ q2 q1) else (if (lg_cmp (rJ q1.2 20 0 (0 : Int32).toNatClampNeg) q2.1.toInt64) = 0 then (jL_law6_610 σ q2 q1) else (some (.inr ())))) else (some (.inr ()))))))))
set_option maxHeartbeats 4000000 in
set_option maxRecDepth 100000 in
theorem okL_law6 {p : Program} {l : Launch} {e : Env} {R : Room} {s : State} {m : MethodId} {args : Array Value} {below : List Frame} {meth : Method} {c : Code} {cy : Nat → ClassId} {D : va_G} {B : Nat} {ek : EK} {Q : State → Prop} (C : Cx p s m args c 9 cy D B ek "HostelBedsLaw" cL_law) (hlf : l.stackTraces = false) (h9 : ¬ cy 9 = 0) (hR9 : R = room_1) {b L : Nat} {xs : Nat → Int32} (hX : va_X b L xs s s.heap) (hbl : b < s.heap.size) (hbA : ¬ aB B b) (nc ns : Nat) (hnc : nc + 8 ≤ R.cells) (hns : ns + 48 ≤ R.slots) (i : Int32) (σ μ ω : Mem) (r9 : (Mem × Mem × Mem) ⊕ Unit) (h : fL_law6 xs L i σ μ ω = some r9) (hcont : ∀ q9, r9 = .inl q9 → ∀ nc2 ns2 : Nat, nc2 ≤ nc + 8 → ns2 ≤ ns + 48 → X p l e R s m args below meth c 9 cy D B nc2 ns2 Q 2861 [(0, .ref b), (1, .ref (B + oHB)), (2, .ref (B + oMd)), (3, .ref (B + oLOut)), (4, .ref (B + oLOutD)), (5, .int i)] [] q9.1 q9.2.1 q9.2.2) (hne : ∀ u, r9 ≠ .inr u) : X p l e R s m args below meth c 9 cy D B nc ns Q 545 [(0, .ref b), (1, .ref (B + oHB)), (2, .ref (B + oMd)), (3, .ref (B + oLOut)), (4, .ref (B + oLOutD)), (5, .int i)] [] σ μ ω := by
  unfold fL_law6 at h
  refine x_aload_n C dL_law_545 rfl 1 rfl ?_
  refine x_aload_n C dL_law_546 rfl 0 rfl ?_
  refine x_iload C dL_law_547 5 rfl ?_
  refine x_iconst C (v := 1) dL_law_549 (by decide) ?_
  refine x_iadd C dL_law_550 ?_
  obtain ⟨hg1, h⟩ := gd_some h
  refine x_sld C hX hbl hbA hg1 dL_law_551 ?_
  refine x_aload_n C dL_law_552 rfl 0 rfl ?_
  refine x_iload C dL_law_553 5 rfl ?_
  refine x_iconst C (v := 2) dL_law_555 (by decide) ?_
  refine x_iadd C dL_law_556 ?_
  obtain ⟨hg2, h⟩ := gd_some h
  refine x_sld C hX hbl hbA hg2 dL_law_557 ?_
  refine x_aload_n C dL_law_558 rfl 3 rfl ?_
  obtain ⟨q1, hk3, h⟩ := Option.bind_eq_some_iff.mp h
  refine x_callSW C (As := [.ref (B + oHB), .int (xs (i + (1 : Int32)).toNatClampNeg), .int (xs (i + (2 : Int32)).toNatClampNeg), .ref (B + oLOut)]) (rest := []) (cells2 := (nc + 2)) (slots2 := (ns + 12)) (lw_g_mk tw_751 rfl) (okL_room_LOut l hlf cy D B ek h9 (xs (i + (1 : Int32)).toNatClampNeg) (xs (i + (2 : Int32)).toNatClampNeg) σ μ ω _ hk3) rfl rfl (by rw [hR9]; decide) (lw_g_mk tw_752 rfl) (lw_g_mk tw_0 rfl) (by decide) rfl (lw_g_mk tw_750 rfl) rfl (Nat.le_of_ble_eq_true rfl) dL_law_559 ⟨by omega, by omega⟩ rfl rfl ?_
  refine x_istore C [(6, .int q1.1), (0, .ref b), (1, .ref (B + oHB)), (2, .ref (B + oMd)), (3, .ref (B + oLOut)), (4, .ref (B + oLOutD)), (5, .int i)] dL_law_562 (by decide) rfl ?_
  refine x_aload_n C dL_law_564 rfl 3 rfl ?_
  refine x_aload_n C dL_law_565 rfl 1 rfl ?_
  refine x_iload C dL_law_566 6 rfl ?_
  refine x_iconst C (v := 1) dL_law_568 (by decide) ?_
  refine x_iadd C dL_law_569 ?_
  refine x_sld C hX hbl hbA hg1 dL_law_570 ?_
  refine x_aload_n C dL_law_571 rfl 1 rfl ?_
  refine x_iload C dL_law_572 6 rfl ?_
  refine x_iconst C (v := 2) dL_law_574 (by decide) ?_
  refine x_iadd C dL_law_575 ?_
  refine x_sld C hX hbl hbA hg2 dL_law_576 ?_
  obtain ⟨q2, hk4, h⟩ := Option.bind_eq_some_iff.mp h
  refine x_callV C (As := [.int (xs (i + (1 : Int32)).toNatClampNeg), .int (xs (i + (2 : Int32)).toNatClampNeg)]) (rest := []) (lw_g_mk tw_1418 rfl) (lw_g_mk tw_1419 rfl) (c_Md) (C1 := "HostelBedsModel") (T := TX6) (N := 27) (ci := 6) rfl (okX6_room l cy D B ek (xs (i + (1 : Int32)).toNatClampNeg) (xs (i + (2 : Int32)).toNatClampNeg) σ μ q1.2 _ hk4) rfl rfl (by rw [hR9]; decide) (lw_g_mk tw_1420 rfl) (lw_g_mk tw_7 rfl) (by decide) rfl (lw_g_mk tw_1417 rfl) rfl (Nat.le_of_ble_eq_true rfl) dL_law_577 ⟨by omega, by omega⟩ ?_
  refine x_istore C [(7, .int q2.1), (6, .int q1.1), (0, .ref b), (1, .ref (B + oHB)), (2, .ref (B + oMd)), (3, .ref (B + oLOut)), (4, .ref (B + oLOutD)), (5, .int i)] dL_law_580 (by decide) rfl ?_
  refine x_aload_n C dL_law_582 rfl 4 rfl ?_
  obtain ⟨q3, hk5, h⟩ := Option.bind_eq_some_iff.mp h
  refine x_callV C (As := []) (rest := []) (lw_g_mk tw_1215 rfl) (lw_g_mk tw_1216 rfl) (c_Md) (C1 := "HostelBedsModel") (T := TX6) (N := 27) (ci := 6) rfl (okX6_thrown l cy D B ek σ q2.2 q1.2 _ hk5) rfl rfl (by rw [hR9]; decide) (lw_g_mk tw_1217 rfl) (lw_g_mk tw_7 rfl) (by decide) rfl (lw_g_mk tw_1214 rfl) rfl (Nat.le_of_ble_eq_true rfl) dL_law_583 ⟨by omega, by omega⟩ ?_
  refine x_iload C dL_law_586 1 rfl ?_
  refine x_icmp_eq C (tgt := 593) dL_law_588 (by decide) (fun hc6 => ?_) (fun hc6 => ?_)
  · rw [if_pos hc6] at h
    refine x_iload C dL_law_593 1 rfl ?_
    have hJ7 : ∀ (r9 : (Mem × Mem × Mem) ⊕ Unit), jL_law6_610 σ q2 q1 = some r9 → (∀ q9, r9 = .inl q9 → ∀ nc2 ns2 : Nat, nc2 ≤ nc + 8 → ns2 ≤ ns + 48 → X p l e R s m args below meth c 9 cy D B nc2 ns2 Q 2861 [(0, .ref b), (1, .ref (B + oHB)), (2, .ref (B + oMd)), (3, .ref (B + oLOut)), (4, .ref (B + oLOutD)), (5, .int i)] [] q9.1 q9.2.1 q9.2.2) → (∀ u, r9 ≠ .inr u) → X p l e R s m args below meth c 9 cy D B (nc + 2) (ns + 12) Q 610 [(0, .ref b), (1, .ref (B + oHB)), (2, .ref (B + oMd)), (3, .ref (B + oLOut)), (4, .ref (B + oLOutD)), (5, .int i)] [] σ q2.2 q1.2 := by
      intro r9 h hcont hne
      unfold jL_law6_610 at h
      refine x_goto C (tgt := 2861) dL_law_610 (by decide) ?_
      cases h
      exact hcont _ rfl _ _ (by omega) (by omega)
    refine x_if_ne C (tgt := 610) dL_law_595 (by decide) (fun hc8 => ?_) (fun hc8 => ?_)
    · rw [if_pos hc8] at h
      refine x_sub [2, 3, 4, 5, 6, 7] rfl ?_
      exact hJ7 _ h hcont hne
    · rw [if_neg hc8] at h
      refine x_aload_n C dL_law_598 rfl 5 rfl ?_
      refine x_iconst C (v := 0) dL_law_599 (by decide) ?_
      refine x_lald C _ (c_LOut h9) (by decide : inb (0 : Int32) 1) dL_law_600 ?_
      refine x_iload C dL_law_601 0 rfl ?_
      refine x_i2l C dL_law_603 ?_
      refine x_lcmp C dL_law_604 ?_
      refine x_if_eq C (tgt := 610) dL_law_605 (by decide) (fun hc9 => ?_) (fun hc9 => ?_)
      · rw [if_pos hc9] at h
        refine x_sub [2, 3, 4, 5, 6, 7] rfl ?_
        exact hJ7 _ h hcont hne
      · rw [if_neg hc9] at h
        refine x_iconst C (v := 0) dL_law_608 (by decide) ?_
        cases h
        exact absurd rfl (hne ())
  · rw [if_neg hc6] at h
    refine x_iconst C (v := 0) dL_law_591 (by decide) ?_
    cases h
    exact absurd rfl (hne ())
def jL_law7_678 (σ : Mem) (q2 : Int32 × Mem) (q1 : Int32 × Mem) : Option ((Mem × Mem × Mem) ⊕ Unit) := (some (.inl (σ, q2.2, q1.2)))
def fL_law7 (xs : Nat → Int32) (L : Nat) (i : Int32) (σ : Mem) (μ : Mem) (ω : Mem) : Option ((Mem × Mem × Mem) ⊕ Unit) := (gd (inb (i + (1 : Int32)) L) (gd (inb (i + (2 : Int32)) L) ((fL_booking_LOut (xs (i + (1 : Int32)).toNatClampNeg) (xs (i + (2 : Int32)).toNatClampNeg) σ ω).bind fun q1 => ((fX6_booking (xs (i + (1 : Int32)).toNatClampNeg) (xs (i + (2 : Int32)).toNatClampNeg) μ).bind fun q2 => ((fX6_thrown q2.2).bind fun q3 => (if q3 = q1.1 then (if ¬ q1.1 = 0 then (jL_law7_678 σ q2 q1) else (if (lg_cmp (rJ q1.2 20 0 (0 : Int32).toNatClampNeg) q2.1.toInt64) = 0 then (jL_law7_678 σ q2 q1) else (some (.inr ())))) else (some (.inr ()))))))))
set_option maxHeartbeats 4000000 in
set_option maxRecDepth 100000 in
theorem okL_law7 {p : Program} {l : Launch} {e : Env} {R : Room} {s : State} {m : MethodId} {args : Array Value} {below : List Frame} {meth : Method} {c : Code} {cy : Nat → ClassId} {D : va_G} {B : Nat} {ek : EK} {Q : State → Prop} (C : Cx p s m args c 9 cy D B ek "HostelBedsLaw" cL_law) (hlf : l.stackTraces = false) (h9 : ¬ cy 9 = 0) (hR9 : R = room_1) {b L : Nat} {xs : Nat → Int32} (hX : va_X b L xs s s.heap) (hbl : b < s.heap.size) (hbA : ¬ aB B b) (nc ns : Nat) (hnc : nc + 8 ≤ R.cells) (hns : ns + 48 ≤ R.slots) (i : Int32) (σ μ ω : Mem) (r9 : (Mem × Mem × Mem) ⊕ Unit) (h : fL_law7 xs L i σ μ ω = some r9) (hcont : ∀ q9, r9 = .inl q9 → ∀ nc2 ns2 : Nat, nc2 ≤ nc + 8 → ns2 ≤ ns + 48 → X p l e R s m args below meth c 9 cy D B nc2 ns2 Q 2861 [(0, .ref b), (1, .ref (B + oHB)), (2, .ref (B + oMd)), (3, .ref (B + oLOut)), (4, .ref (B + oLOutD)), (5, .int i)] [] q9.1 q9.2.1 q9.2.2) (hne : ∀ u, r9 ≠ .inr u) : X p l e R s m args below meth c 9 cy D B nc ns Q 613 [(0, .ref b), (1, .ref (B + oHB)), (2, .ref (B + oMd)), (3, .ref (B + oLOut)), (4, .ref (B + oLOutD)), (5, .int i)] [] σ μ ω := by
  unfold fL_law7 at h
  refine x_aload_n C dL_law_613 rfl 1 rfl ?_
  refine x_aload_n C dL_law_614 rfl 0 rfl ?_
  refine x_iload C dL_law_615 5 rfl ?_
  refine x_iconst C (v := 1) dL_law_617 (by decide) ?_
  refine x_iadd C dL_law_618 ?_
  obtain ⟨hg1, h⟩ := gd_some h
  refine x_sld C hX hbl hbA hg1 dL_law_619 ?_
  refine x_aload_n C dL_law_620 rfl 0 rfl ?_
  refine x_iload C dL_law_621 5 rfl ?_
  refine x_iconst C (v := 2) dL_law_623 (by decide) ?_
  refine x_iadd C dL_law_624 ?_
  obtain ⟨hg2, h⟩ := gd_some h
  refine x_sld C hX hbl hbA hg2 dL_law_625 ?_
  refine x_aload_n C dL_law_626 rfl 3 rfl ?_
  obtain ⟨q1, hk3, h⟩ := Option.bind_eq_some_iff.mp h
  refine x_callSW C (As := [.ref (B + oHB), .int (xs (i + (1 : Int32)).toNatClampNeg), .int (xs (i + (2 : Int32)).toNatClampNeg), .ref (B + oLOut)]) (rest := []) (cells2 := (nc + 2)) (slots2 := (ns + 12)) (lw_g_mk tw_780 rfl) (okL_booking_LOut l hlf cy D B ek h9 (xs (i + (1 : Int32)).toNatClampNeg) (xs (i + (2 : Int32)).toNatClampNeg) σ μ ω _ hk3) rfl rfl (by rw [hR9]; decide) (lw_g_mk tw_781 rfl) (lw_g_mk tw_0 rfl) (by decide) rfl (lw_g_mk tw_779 rfl) rfl (Nat.le_of_ble_eq_true rfl) dL_law_627 ⟨by omega, by omega⟩ rfl rfl ?_
  refine x_istore C [(6, .int q1.1), (0, .ref b), (1, .ref (B + oHB)), (2, .ref (B + oMd)), (3, .ref (B + oLOut)), (4, .ref (B + oLOutD)), (5, .int i)] dL_law_630 (by decide) rfl ?_
  refine x_aload_n C dL_law_632 rfl 3 rfl ?_
  refine x_aload_n C dL_law_633 rfl 1 rfl ?_
  refine x_iload C dL_law_634 6 rfl ?_
  refine x_iconst C (v := 1) dL_law_636 (by decide) ?_
  refine x_iadd C dL_law_637 ?_
  refine x_sld C hX hbl hbA hg1 dL_law_638 ?_
  refine x_aload_n C dL_law_639 rfl 1 rfl ?_
  refine x_iload C dL_law_640 6 rfl ?_
  refine x_iconst C (v := 2) dL_law_642 (by decide) ?_
  refine x_iadd C dL_law_643 ?_
  refine x_sld C hX hbl hbA hg2 dL_law_644 ?_
  obtain ⟨q2, hk4, h⟩ := Option.bind_eq_some_iff.mp h
  refine x_callV C (As := [.int (xs (i + (1 : Int32)).toNatClampNeg), .int (xs (i + (2 : Int32)).toNatClampNeg)]) (rest := []) (lw_g_mk tw_1426 rfl) (lw_g_mk tw_1427 rfl) (c_Md) (C1 := "HostelBedsModel") (T := TX6) (N := 27) (ci := 6) rfl (okX6_booking l cy D B ek (xs (i + (1 : Int32)).toNatClampNeg) (xs (i + (2 : Int32)).toNatClampNeg) σ μ q1.2 _ hk4) rfl rfl (by rw [hR9]; decide) (lw_g_mk tw_1428 rfl) (lw_g_mk tw_7 rfl) (by decide) rfl (lw_g_mk tw_1425 rfl) rfl (Nat.le_of_ble_eq_true rfl) dL_law_645 ⟨by omega, by omega⟩ ?_
  refine x_istore C [(7, .int q2.1), (6, .int q1.1), (0, .ref b), (1, .ref (B + oHB)), (2, .ref (B + oMd)), (3, .ref (B + oLOut)), (4, .ref (B + oLOutD)), (5, .int i)] dL_law_648 (by decide) rfl ?_
  refine x_aload_n C dL_law_650 rfl 4 rfl ?_
  obtain ⟨q3, hk5, h⟩ := Option.bind_eq_some_iff.mp h
  refine x_callV C (As := []) (rest := []) (lw_g_mk tw_1215 rfl) (lw_g_mk tw_1216 rfl) (c_Md) (C1 := "HostelBedsModel") (T := TX6) (N := 27) (ci := 6) rfl (okX6_thrown l cy D B ek σ q2.2 q1.2 _ hk5) rfl rfl (by rw [hR9]; decide) (lw_g_mk tw_1217 rfl) (lw_g_mk tw_7 rfl) (by decide) rfl (lw_g_mk tw_1214 rfl) rfl (Nat.le_of_ble_eq_true rfl) dL_law_651 ⟨by omega, by omega⟩ ?_
  refine x_iload C dL_law_654 1 rfl ?_
  refine x_icmp_eq C (tgt := 661) dL_law_656 (by decide) (fun hc6 => ?_) (fun hc6 => ?_)
  · rw [if_pos hc6] at h
    refine x_iload C dL_law_661 1 rfl ?_
    have hJ7 : ∀ (r9 : (Mem × Mem × Mem) ⊕ Unit), jL_law7_678 σ q2 q1 = some r9 → (∀ q9, r9 = .inl q9 → ∀ nc2 ns2 : Nat, nc2 ≤ nc + 8 → ns2 ≤ ns + 48 → X p l e R s m args below meth c 9 cy D B nc2 ns2 Q 2861 [(0, .ref b), (1, .ref (B + oHB)), (2, .ref (B + oMd)), (3, .ref (B + oLOut)), (4, .ref (B + oLOutD)), (5, .int i)] [] q9.1 q9.2.1 q9.2.2) → (∀ u, r9 ≠ .inr u) → X p l e R s m args below meth c 9 cy D B (nc + 2) (ns + 12) Q 678 [(0, .ref b), (1, .ref (B + oHB)), (2, .ref (B + oMd)), (3, .ref (B + oLOut)), (4, .ref (B + oLOutD)), (5, .int i)] [] σ q2.2 q1.2 := by
      intro r9 h hcont hne
      unfold jL_law7_678 at h
      refine x_goto C (tgt := 2861) dL_law_678 (by decide) ?_
      cases h
      exact hcont _ rfl _ _ (by omega) (by omega)
    refine x_if_ne C (tgt := 678) dL_law_663 (by decide) (fun hc8 => ?_) (fun hc8 => ?_)
    · rw [if_pos hc8] at h
      refine x_sub [2, 3, 4, 5, 6, 7] rfl ?_
      exact hJ7 _ h hcont hne
    · rw [if_neg hc8] at h
      refine x_aload_n C dL_law_666 rfl 5 rfl ?_
      refine x_iconst C (v := 0) dL_law_667 (by decide) ?_
      refine x_lald C _ (c_LOut h9) (by decide : inb (0 : Int32) 1) dL_law_668 ?_
      refine x_iload C dL_law_669 0 rfl ?_
      refine x_i2l C dL_law_671 ?_
      refine x_lcmp C dL_law_672 ?_
      refine x_if_eq C (tgt := 678) dL_law_673 (by decide) (fun hc9 => ?_) (fun hc9 => ?_)
      · rw [if_pos hc9] at h
        refine x_sub [2, 3, 4, 5, 6, 7] rfl ?_
        exact hJ7 _ h hcont hne
      · rw [if_neg hc9] at h
        refine x_iconst C (v := 0) dL_law_676 (by decide) ?_
        cases h
        exact absurd rfl (hne ())
  · rw [if_neg hc6] at h
    refine x_iconst C (v := 0) dL_law_659 (by decide) ?_
    cases h
    exact absurd rfl (hne ())
def jL_law8_750 (q2 : Int32 × Mem × Mem) (q4 : Int32 × Mem) : Option ((Mem × Mem × Mem) ⊕ Unit) := (some (.inl (q2.2.1, q4.2, q2.2.2)))
def jL_law8_717 (μ : Mem) (q2 : Int32 × Mem × Mem) (t3 : Int32) : Option ((Mem × Mem × Mem) ⊕ Unit) := ((fX6_find t3 μ).bind fun q4 => ((fX6_thrown q4.2).bind fun q5 => (if q5 = q2.1 then (if ¬ q2.1 = 0 then (jL_law8_750 q2 q4) else (if (lg_cmp (rJ q2.2.2 20 0 (0 : Int32).toNatClampNeg) q4.1.toInt64) = 0 then (jL_law8_750 q2 q4) else (some (.inr ())))) else (some (.inr ())))))
def jL_law8_696 (σ : Mem) (ω : Mem) (xs : Nat → Int32) (i : Int32) (μ : Mem) (t1 : Int32) : Option ((Mem × Mem × Mem) ⊕ Unit) := ((fL_find_LOut t1 σ ω).bind fun q2 => (if (xs (i + (1 : Int32)).toNatClampNeg) = 0 then (jL_law8_717 μ q2 (0 : Int32)) else (jL_law8_717 μ q2 (1 : Int32))))
def fL_law8 (xs : Nat → Int32) (L : Nat) (i : Int32) (σ : Mem) (μ : Mem) (ω : Mem) : Option ((Mem × Mem × Mem) ⊕ Unit) := (gd (inb (i + (1 : Int32)) L) (if (xs (i + (1 : Int32)).toNatClampNeg) = 0 then (jL_law8_696 σ ω xs i μ (0 : Int32)) else (jL_law8_696 σ ω xs i μ (1 : Int32))))
set_option maxHeartbeats 4000000 in
set_option maxRecDepth 100000 in
theorem okL_law8 {p : Program} {l : Launch} {e : Env} {R : Room} {s : State} {m : MethodId} {args : Array Value} {below : List Frame} {meth : Method} {c : Code} {cy : Nat → ClassId} {D : va_G} {B : Nat} {ek : EK} {Q : State → Prop} (C : Cx p s m args c 9 cy D B ek "HostelBedsLaw" cL_law) (hlf : l.stackTraces = false) (h9 : ¬ cy 9 = 0) (hR9 : R = room_1) {b L : Nat} {xs : Nat → Int32} (hX : va_X b L xs s s.heap) (hbl : b < s.heap.size) (hbA : ¬ aB B b) (nc ns : Nat) (hnc : nc + 8 ≤ R.cells) (hns : ns + 48 ≤ R.slots) (i : Int32) (σ μ ω : Mem) (r9 : (Mem × Mem × Mem) ⊕ Unit) (h : fL_law8 xs L i σ μ ω = some r9) (hcont : ∀ q9, r9 = .inl q9 → ∀ nc2 ns2 : Nat, nc2 ≤ nc + 8 → ns2 ≤ ns + 48 → X p l e R s m args below meth c 9 cy D B nc2 ns2 Q 2861 [(0, .ref b), (1, .ref (B + oHB)), (2, .ref (B + oMd)), (3, .ref (B + oLOut)), (4, .ref (B + oLOutD)), (5, .int i)] [] q9.1 q9.2.1 q9.2.2) (hne : ∀ u, r9 ≠ .inr u) : X p l e R s m args below meth c 9 cy D B nc ns Q 681 [(0, .ref b), (1, .ref (B + oHB)), (2, .ref (B + oMd)), (3, .ref (B + oLOut)), (4, .ref (B + oLOutD)), (5, .int i)] [] σ μ ω := by
  unfold fL_law8 at h
  refine x_aload_n C dL_law_681 rfl 1 rfl ?_
  refine x_aload_n C dL_law_682 rfl 0 rfl ?_
  refine x_iload C dL_law_683 5 rfl ?_
  refine x_iconst C (v := 1) dL_law_685 (by decide) ?_
  refine x_iadd C dL_law_686 ?_
  obtain ⟨hg1, h⟩ := gd_some h
  refine x_sld C hX hbl hbA hg1 dL_law_687 ?_
  have hJ11 : ∀ (t1 : Int32) (r9 : (Mem × Mem × Mem) ⊕ Unit), jL_law8_696 σ ω xs i μ t1 = some r9 → (∀ q9, r9 = .inl q9 → ∀ nc2 ns2 : Nat, nc2 ≤ nc + 8 → ns2 ≤ ns + 48 → X p l e R s m args below meth c 9 cy D B nc2 ns2 Q 2861 [(0, .ref b), (1, .ref (B + oHB)), (2, .ref (B + oMd)), (3, .ref (B + oLOut)), (4, .ref (B + oLOutD)), (5, .int i)] [] q9.1 q9.2.1 q9.2.2) → (∀ u, r9 ≠ .inr u) → X p l e R s m args below meth c 9 cy D B nc ns Q 696 [(0, .ref b), (1, .ref (B + oHB)), (2, .ref (B + oMd)), (3, .ref (B + oLOut)), (4, .ref (B + oLOutD)), (5, .int i)] [.int t1, .ref (B + oHB)] σ μ ω := by
    intro t1 r9 h hcont hne
    unfold jL_law8_696 at h
    refine x_aload_n C dL_law_696 rfl 3 rfl ?_
    obtain ⟨q2, hk2, h⟩ := Option.bind_eq_some_iff.mp h
    refine x_callSW C (As := [.ref (B + oHB), .int t1, .ref (B + oLOut)]) (rest := []) (cells2 := (nc + 1)) (slots2 := (ns + 6)) (lw_g_mk tw_793 rfl) (okL_find_LOut l hlf cy D B ek h9 t1 σ μ ω _ hk2) rfl rfl (by rw [hR9]; decide) (lw_g_mk tw_794 rfl) (lw_g_mk tw_0 rfl) (by decide) rfl (lw_g_mk tw_792 rfl) rfl (Nat.le_of_ble_eq_true rfl) dL_law_697 ⟨by omega, by omega⟩ rfl rfl ?_
    refine x_istore C [(6, .int q2.1), (0, .ref b), (1, .ref (B + oHB)), (2, .ref (B + oMd)), (3, .ref (B + oLOut)), (4, .ref (B + oLOutD)), (5, .int i)] dL_law_700 (by decide) rfl ?_
    refine x_aload_n C dL_law_702 rfl 3 rfl ?_
    refine x_aload_n C dL_law_703 rfl 1 rfl ?_
    refine x_iload C dL_law_704 6 rfl ?_
    refine x_iconst C (v := 1) dL_law_706 (by decide) ?_
    refine x_iadd C dL_law_707 ?_
    refine x_sld C hX hbl hbA hg1 dL_law_708 ?_
    have hJ9 : ∀ (t3 : Int32) (r9 : (Mem × Mem × Mem) ⊕ Unit), jL_law8_717 μ q2 t3 = some r9 → (∀ q9, r9 = .inl q9 → ∀ nc2 ns2 : Nat, nc2 ≤ nc + 8 → ns2 ≤ ns + 48 → X p l e R s m args below meth c 9 cy D B nc2 ns2 Q 2861 [(0, .ref b), (1, .ref (B + oHB)), (2, .ref (B + oMd)), (3, .ref (B + oLOut)), (4, .ref (B + oLOutD)), (5, .int i)] [] q9.1 q9.2.1 q9.2.2) → (∀ u, r9 ≠ .inr u) → X p l e R s m args below meth c 9 cy D B (nc + 1) (ns + 6) Q 717 [(0, .ref b), (1, .ref (B + oHB)), (2, .ref (B + oMd)), (3, .ref (B + oLOut)), (4, .ref (B + oLOutD)), (5, .int i), (6, .int q2.1)] [.int t3, .ref (B + oMd)] q2.2.1 μ q2.2.2 := by
      intro t3 r9 h hcont hne
      unfold jL_law8_717 at h
      obtain ⟨q4, hk3, h⟩ := Option.bind_eq_some_iff.mp h
      refine x_callV C (As := [.int t3]) (rest := []) (lw_g_mk tw_1434 rfl) (lw_g_mk tw_1435 rfl) (c_Md) (C1 := "HostelBedsModel") (T := TX6) (N := 27) (ci := 6) rfl (okX6_find l cy D B ek t3 q2.2.1 μ q2.2.2 _ hk3) rfl rfl (by rw [hR9]; decide) (lw_g_mk tw_1436 rfl) (lw_g_mk tw_7 rfl) (by decide) rfl (lw_g_mk tw_1433 rfl) rfl (Nat.le_of_ble_eq_true rfl) dL_law_717 ⟨by omega, by omega⟩ ?_
      refine x_istore C [(7, .int q4.1), (0, .ref b), (1, .ref (B + oHB)), (2, .ref (B + oMd)), (3, .ref (B + oLOut)), (4, .ref (B + oLOutD)), (5, .int i), (6, .int q2.1)] dL_law_720 (by decide) rfl ?_
      refine x_aload_n C dL_law_722 rfl 3 rfl ?_
      obtain ⟨q5, hk4, h⟩ := Option.bind_eq_some_iff.mp h
      refine x_callV C (As := []) (rest := []) (lw_g_mk tw_1215 rfl) (lw_g_mk tw_1216 rfl) (c_Md) (C1 := "HostelBedsModel") (T := TX6) (N := 27) (ci := 6) rfl (okX6_thrown l cy D B ek q2.2.1 q4.2 q2.2.2 _ hk4) rfl rfl (by rw [hR9]; decide) (lw_g_mk tw_1217 rfl) (lw_g_mk tw_7 rfl) (by decide) rfl (lw_g_mk tw_1214 rfl) rfl (Nat.le_of_ble_eq_true rfl) dL_law_723 ⟨by omega, by omega⟩ ?_
      refine x_iload C dL_law_726 7 rfl ?_
      refine x_icmp_eq C (tgt := 733) dL_law_728 (by decide) (fun hc5 => ?_) (fun hc5 => ?_)
      · rw [if_pos hc5] at h
        refine x_iload C dL_law_733 7 rfl ?_
        have hJ6 : ∀ (r9 : (Mem × Mem × Mem) ⊕ Unit), jL_law8_750 q2 q4 = some r9 → (∀ q9, r9 = .inl q9 → ∀ nc2 ns2 : Nat, nc2 ≤ nc + 8 → ns2 ≤ ns + 48 → X p l e R s m args below meth c 9 cy D B nc2 ns2 Q 2861 [(0, .ref b), (1, .ref (B + oHB)), (2, .ref (B + oMd)), (3, .ref (B + oLOut)), (4, .ref (B + oLOutD)), (5, .int i)] [] q9.1 q9.2.1 q9.2.2) → (∀ u, r9 ≠ .inr u) → X p l e R s m args below meth c 9 cy D B (nc + 1) (ns + 6) Q 750 [(0, .ref b), (1, .ref (B + oHB)), (2, .ref (B + oMd)), (3, .ref (B + oLOut)), (4, .ref (B + oLOutD)), (5, .int i)] [] q2.2.1 q4.2 q2.2.2 := by
          intro r9 h hcont hne
          unfold jL_law8_750 at h
          refine x_goto C (tgt := 2861) dL_law_750 (by decide) ?_
          cases h
          exact hcont _ rfl _ _ (by omega) (by omega)
        refine x_if_ne C (tgt := 750) dL_law_735 (by decide) (fun hc7 => ?_) (fun hc7 => ?_)
        · rw [if_pos hc7] at h
          refine x_sub [1, 2, 3, 4, 5, 6] rfl ?_
          exact hJ6 _ h hcont hne
        · rw [if_neg hc7] at h
          refine x_aload_n C dL_law_738 rfl 4 rfl ?_
          refine x_iconst C (v := 0) dL_law_739 (by decide) ?_
          refine x_lald C _ (c_LOut h9) (by decide : inb (0 : Int32) 1) dL_law_740 ?_
          refine x_iload C dL_law_741 0 rfl ?_
          refine x_i2l C dL_law_743 ?_
          refine x_lcmp C dL_law_744 ?_
          refine x_if_eq C (tgt := 750) dL_law_745 (by decide) (fun hc8 => ?_) (fun hc8 => ?_)
          · rw [if_pos hc8] at h
            refine x_sub [1, 2, 3, 4, 5, 6] rfl ?_
            exact hJ6 _ h hcont hne
          · rw [if_neg hc8] at h
            refine x_iconst C (v := 0) dL_law_748 (by decide) ?_
            cases h
            exact absurd rfl (hne ())
      · rw [if_neg hc5] at h
        refine x_iconst C (v := 0) dL_law_731 (by decide) ?_
        cases h
        exact absurd rfl (hne ())
    refine x_if_eq C (tgt := 716) dL_law_709 (by decide) (fun hc10 => ?_) (fun hc10 => ?_)
    · rw [if_pos hc10] at h
      refine x_iconst C (v := 0) dL_law_716 (by decide) ?_
      refine x_sub [1, 2, 3, 4, 5, 6, 0] rfl ?_
      exact hJ9 (0 : Int32) _ h hcont hne
    · rw [if_neg hc10] at h
      refine x_iconst C (v := 1) dL_law_712 (by decide) ?_
      refine x_goto C (tgt := 717) dL_law_713 (by decide) ?_
      refine x_sub [1, 2, 3, 4, 5, 6, 0] rfl ?_
      exact hJ9 (1 : Int32) _ h hcont hne
  refine x_if_eq C (tgt := 695) dL_law_688 (by decide) (fun hc12 => ?_) (fun hc12 => ?_)
  · rw [if_pos hc12] at h
    refine x_iconst C (v := 0) dL_law_695 (by decide) ?_
    exact hJ11 (0 : Int32) _ h hcont hne
  · rw [if_neg hc12] at h
    refine x_iconst C (v := 1) dL_law_691 (by decide) ?_
    refine x_goto C (tgt := 696) dL_law_692 (by decide) ?_
    exact hJ11 (1 : Int32) _ h hcont hne
def jL_law9_806 (σ : Mem) (q2 : Int32 × Mem) (q1 : Int32 × Mem) : Option ((Mem × Mem × Mem) ⊕ Unit) := (some (.inl (σ, q2.2, q1.2)))
def fL_law9 (xs : Nat → Int32) (L : Nat) (i : Int32) (σ : Mem) (μ : Mem) (ω : Mem) : Option ((Mem × Mem × Mem) ⊕ Unit) := (gd (inb (i + (1 : Int32)) L) ((fL_state_LOut (xs (i + (1 : Int32)).toNatClampNeg) σ ω).bind fun q1 => ((fX6_state (xs (i + (1 : Int32)).toNatClampNeg) μ).bind fun q2 => ((fX6_thrown q2.2).bind fun q3 => (if q3 = q1.1 then (if ¬ q1.1 = 0 then (jL_law9_806 σ q2 q1) else (if (lg_cmp (rJ q1.2 20 0 (0 : Int32).toNatClampNeg) q2.1.toInt64) = 0 then (jL_law9_806 σ q2 q1) else (some (.inr ())))) else (some (.inr ())))))))
set_option maxHeartbeats 4000000 in
set_option maxRecDepth 100000 in
theorem okL_law9 {p : Program} {l : Launch} {e : Env} {R : Room} {s : State} {m : MethodId} {args : Array Value} {below : List Frame} {meth : Method} {c : Code} {cy : Nat → ClassId} {D : va_G} {B : Nat} {ek : EK} {Q : State → Prop} (C : Cx p s m args c 9 cy D B ek "HostelBedsLaw" cL_law) (hlf : l.stackTraces = false) (h9 : ¬ cy 9 = 0) (hR9 : R = room_1) {b L : Nat} {xs : Nat → Int32} (hX : va_X b L xs s s.heap) (hbl : b < s.heap.size) (hbA : ¬ aB B b) (nc ns : Nat) (hnc : nc + 8 ≤ R.cells) (hns : ns + 48 ≤ R.slots) (i : Int32) (σ μ ω : Mem) (r9 : (Mem × Mem × Mem) ⊕ Unit) (h : fL_law9 xs L i σ μ ω = some r9) (hcont : ∀ q9, r9 = .inl q9 → ∀ nc2 ns2 : Nat, nc2 ≤ nc + 8 → ns2 ≤ ns + 48 → X p l e R s m args below meth c 9 cy D B nc2 ns2 Q 2861 [(0, .ref b), (1, .ref (B + oHB)), (2, .ref (B + oMd)), (3, .ref (B + oLOut)), (4, .ref (B + oLOutD)), (5, .int i)] [] q9.1 q9.2.1 q9.2.2) (hne : ∀ u, r9 ≠ .inr u) : X p l e R s m args below meth c 9 cy D B nc ns Q 753 [(0, .ref b), (1, .ref (B + oHB)), (2, .ref (B + oMd)), (3, .ref (B + oLOut)), (4, .ref (B + oLOutD)), (5, .int i)] [] σ μ ω := by
  unfold fL_law9 at h
  refine x_aload_n C dL_law_753 rfl 1 rfl ?_
  refine x_aload_n C dL_law_754 rfl 0 rfl ?_
  refine x_iload C dL_law_755 5 rfl ?_
  refine x_iconst C (v := 1) dL_law_757 (by decide) ?_
  refine x_iadd C dL_law_758 ?_
  obtain ⟨hg1, h⟩ := gd_some h
  refine x_sld C hX hbl hbA hg1 dL_law_759 ?_
  refine x_aload_n C dL_law_760 rfl 3 rfl ?_
  obtain ⟨q1, hk2, h⟩ := Option.bind_eq_some_iff.mp h
  refine x_callSW C (As := [.ref (B + oHB), .int (xs (i + (1 : Int32)).toNatClampNeg), .ref (B + oLOut)]) (rest := []) (cells2 := (nc + 1)) (slots2 := (ns + 6)) (lw_g_mk tw_823 rfl) (okL_state_LOut l hlf cy D B ek h9 (xs (i + (1 : Int32)).toNatClampNeg) σ μ ω _ hk2) rfl rfl (by rw [hR9]; decide) (lw_g_mk tw_824 rfl) (lw_g_mk tw_0 rfl) (by decide) rfl (lw_g_mk tw_822 rfl) rfl (Nat.le_of_ble_eq_true rfl) dL_law_761 ⟨by omega, by omega⟩ rfl rfl ?_
  refine x_istore C [(6, .int q1.1), (0, .ref b), (1, .ref (B + oHB)), (2, .ref (B + oMd)), (3, .ref (B + oLOut)), (4, .ref (B + oLOutD)), (5, .int i)] dL_law_764 (by decide) rfl ?_
  refine x_aload_n C dL_law_766 rfl 3 rfl ?_
  refine x_aload_n C dL_law_767 rfl 1 rfl ?_
  refine x_iload C dL_law_768 6 rfl ?_
  refine x_iconst C (v := 1) dL_law_770 (by decide) ?_
  refine x_iadd C dL_law_771 ?_
  refine x_sld C hX hbl hbA hg1 dL_law_772 ?_
  obtain ⟨q2, hk3, h⟩ := Option.bind_eq_some_iff.mp h
  refine x_callV C (As := [.int (xs (i + (1 : Int32)).toNatClampNeg)]) (rest := []) (lw_g_mk tw_1438 rfl) (lw_g_mk tw_1439 rfl) (c_Md) (C1 := "HostelBedsModel") (T := TX6) (N := 27) (ci := 6) rfl (okX6_state l cy D B ek (xs (i + (1 : Int32)).toNatClampNeg) σ μ q1.2 _ hk3) rfl rfl (by rw [hR9]; decide) (lw_g_mk tw_1440 rfl) (lw_g_mk tw_7 rfl) (by decide) rfl (lw_g_mk tw_1437 rfl) rfl (Nat.le_of_ble_eq_true rfl) dL_law_773 ⟨by omega, by omega⟩ ?_
  refine x_istore C [(7, .int q2.1), (6, .int q1.1), (0, .ref b), (1, .ref (B + oHB)), (2, .ref (B + oMd)), (3, .ref (B + oLOut)), (4, .ref (B + oLOutD)), (5, .int i)] dL_law_776 (by decide) rfl ?_
  refine x_aload_n C dL_law_778 rfl 4 rfl ?_
  obtain ⟨q3, hk4, h⟩ := Option.bind_eq_some_iff.mp h
  refine x_callV C (As := []) (rest := []) (lw_g_mk tw_1215 rfl) (lw_g_mk tw_1216 rfl) (c_Md) (C1 := "HostelBedsModel") (T := TX6) (N := 27) (ci := 6) rfl (okX6_thrown l cy D B ek σ q2.2 q1.2 _ hk4) rfl rfl (by rw [hR9]; decide) (lw_g_mk tw_1217 rfl) (lw_g_mk tw_7 rfl) (by decide) rfl (lw_g_mk tw_1214 rfl) rfl (Nat.le_of_ble_eq_true rfl) dL_law_779 ⟨by omega, by omega⟩ ?_
  refine x_iload C dL_law_782 1 rfl ?_
  refine x_icmp_eq C (tgt := 789) dL_law_784 (by decide) (fun hc5 => ?_) (fun hc5 => ?_)
  · rw [if_pos hc5] at h
    refine x_iload C dL_law_789 1 rfl ?_
    have hJ6 : ∀ (r9 : (Mem × Mem × Mem) ⊕ Unit), jL_law9_806 σ q2 q1 = some r9 → (∀ q9, r9 = .inl q9 → ∀ nc2 ns2 : Nat, nc2 ≤ nc + 8 → ns2 ≤ ns + 48 → X p l e R s m args below meth c 9 cy D B nc2 ns2 Q 2861 [(0, .ref b), (1, .ref (B + oHB)), (2, .ref (B + oMd)), (3, .ref (B + oLOut)), (4, .ref (B + oLOutD)), (5, .int i)] [] q9.1 q9.2.1 q9.2.2) → (∀ u, r9 ≠ .inr u) → X p l e R s m args below meth c 9 cy D B (nc + 1) (ns + 6) Q 806 [(0, .ref b), (1, .ref (B + oHB)), (2, .ref (B + oMd)), (3, .ref (B + oLOut)), (4, .ref (B + oLOutD)), (5, .int i)] [] σ q2.2 q1.2 := by
      intro r9 h hcont hne
      unfold jL_law9_806 at h
      refine x_goto C (tgt := 2861) dL_law_806 (by decide) ?_
      cases h
      exact hcont _ rfl _ _ (by omega) (by omega)
    refine x_if_ne C (tgt := 806) dL_law_791 (by decide) (fun hc7 => ?_) (fun hc7 => ?_)
    · rw [if_pos hc7] at h
      refine x_sub [2, 3, 4, 5, 6, 7] rfl ?_
      exact hJ6 _ h hcont hne
    · rw [if_neg hc7] at h
      refine x_aload_n C dL_law_794 rfl 5 rfl ?_
      refine x_iconst C (v := 0) dL_law_795 (by decide) ?_
      refine x_lald C _ (c_LOut h9) (by decide : inb (0 : Int32) 1) dL_law_796 ?_
      refine x_iload C dL_law_797 0 rfl ?_
      refine x_i2l C dL_law_799 ?_
      refine x_lcmp C dL_law_800 ?_
      refine x_if_eq C (tgt := 806) dL_law_801 (by decide) (fun hc8 => ?_) (fun hc8 => ?_)
      · rw [if_pos hc8] at h
        refine x_sub [2, 3, 4, 5, 6, 7] rfl ?_
        exact hJ6 _ h hcont hne
      · rw [if_neg hc8] at h
        refine x_iconst C (v := 0) dL_law_804 (by decide) ?_
        cases h
        exact absurd rfl (hne ())
  · rw [if_neg hc5] at h
    refine x_iconst C (v := 0) dL_law_787 (by decide) ?_
    cases h
    exact absurd rfl (hne ())
def jL_law10_862 (σ : Mem) (q2 : Int32 × Mem) (q1 : Int32 × Mem) : Option ((Mem × Mem × Mem) ⊕ Unit) := (some (.inl (σ, q2.2, q1.2)))
def fL_law10 (xs : Nat → Int32) (L : Nat) (i : Int32) (σ : Mem) (μ : Mem) (ω : Mem) : Option ((Mem × Mem × Mem) ⊕ Unit) := (gd (inb (i + (1 : Int32)) L) ((fL_waiting_LOut (xs (i + (1 : Int32)).toNatClampNeg) σ ω).bind fun q1 => ((fX6_waiting (xs (i + (1 : Int32)).toNatClampNeg) μ).bind fun q2 => ((fX6_thrown q2.2).bind fun q3 => (if q3 = q1.1 then (if ¬ q1.1 = 0 then (jL_law10_862 σ q2 q1) else (if (lg_cmp (rJ q1.2 20 0 (0 : Int32).toNatClampNeg) q2.1.toInt64) = 0 then (jL_law10_862 σ q2 q1) else (some (.inr ())))) else (some (.inr ())))))))
set_option maxHeartbeats 4000000 in
set_option maxRecDepth 100000 in
theorem okL_law10 {p : Program} {l : Launch} {e : Env} {R : Room} {s : State} {m : MethodId} {args : Array Value} {below : List Frame} {meth : Method} {c : Code} {cy : Nat → ClassId} {D : va_G} {B : Nat} {ek : EK} {Q : State → Prop} (C : Cx p s m args c 9 cy D B ek "HostelBedsLaw" cL_law) (hlf : l.stackTraces = false) (h9 : ¬ cy 9 = 0) (hR9 : R = room_1) {b L : Nat} {xs : Nat → Int32} (hX : va_X b L xs s s.heap) (hbl : b < s.heap.size) (hbA : ¬ aB B b) (nc ns : Nat) (hnc : nc + 8 ≤ R.cells) (hns : ns + 48 ≤ R.slots) (i : Int32) (σ μ ω : Mem) (r9 : (Mem × Mem × Mem) ⊕ Unit) (h : fL_law10 xs L i σ μ ω = some r9) (hcont : ∀ q9, r9 = .inl q9 → ∀ nc2 ns2 : Nat, nc2 ≤ nc + 8 → ns2 ≤ ns + 48 → X p l e R s m args below meth c 9 cy D B nc2 ns2 Q 2861 [(0, .ref b), (1, .ref (B + oHB)), (2, .ref (B + oMd)), (3, .ref (B + oLOut)), (4, .ref (B + oLOutD)), (5, .int i)] [] q9.1 q9.2.1 q9.2.2) (hne : ∀ u, r9 ≠ .inr u) : X p l e R s m args below meth c 9 cy D B nc ns Q 809 [(0, .ref b), (1, .ref (B + oHB)), (2, .ref (B + oMd)), (3, .ref (B + oLOut)), (4, .ref (B + oLOutD)), (5, .int i)] [] σ μ ω := by
  unfold fL_law10 at h
  refine x_aload_n C dL_law_809 rfl 1 rfl ?_
  refine x_aload_n C dL_law_810 rfl 0 rfl ?_
  refine x_iload C dL_law_811 5 rfl ?_
  refine x_iconst C (v := 1) dL_law_813 (by decide) ?_
  refine x_iadd C dL_law_814 ?_
  obtain ⟨hg1, h⟩ := gd_some h
  refine x_sld C hX hbl hbA hg1 dL_law_815 ?_
  refine x_aload_n C dL_law_816 rfl 3 rfl ?_
  obtain ⟨q1, hk2, h⟩ := Option.bind_eq_some_iff.mp h
  refine x_callSW C (As := [.ref (B + oHB), .int (xs (i + (1 : Int32)).toNatClampNeg), .ref (B + oLOut)]) (rest := []) (cells2 := (nc + 1)) (slots2 := (ns + 6)) (lw_g_mk tw_830 rfl) (okL_waiting_LOut l hlf cy D B ek h9 (xs (i + (1 : Int32)).toNatClampNeg) σ μ ω _ hk2) rfl rfl (by rw [hR9]; decide) (lw_g_mk tw_831 rfl) (lw_g_mk tw_0 rfl) (by decide) rfl (lw_g_mk tw_829 rfl) rfl (Nat.le_of_ble_eq_true rfl) dL_law_817 ⟨by omega, by omega⟩ rfl rfl ?_
  refine x_istore C [(6, .int q1.1), (0, .ref b), (1, .ref (B + oHB)), (2, .ref (B + oMd)), (3, .ref (B + oLOut)), (4, .ref (B + oLOutD)), (5, .int i)] dL_law_820 (by decide) rfl ?_
  refine x_aload_n C dL_law_822 rfl 3 rfl ?_
  refine x_aload_n C dL_law_823 rfl 1 rfl ?_
  refine x_iload C dL_law_824 6 rfl ?_
  refine x_iconst C (v := 1) dL_law_826 (by decide) ?_
  refine x_iadd C dL_law_827 ?_
  refine x_sld C hX hbl hbA hg1 dL_law_828 ?_
  obtain ⟨q2, hk3, h⟩ := Option.bind_eq_some_iff.mp h
  refine x_callV C (As := [.int (xs (i + (1 : Int32)).toNatClampNeg)]) (rest := []) (lw_g_mk tw_1442 rfl) (lw_g_mk tw_1443 rfl) (c_Md) (C1 := "HostelBedsModel") (T := TX6) (N := 27) (ci := 6) rfl (okX6_waiting l cy D B ek (xs (i + (1 : Int32)).toNatClampNeg) σ μ q1.2 _ hk3) rfl rfl (by rw [hR9]; decide) (lw_g_mk tw_1444 rfl) (lw_g_mk tw_7 rfl) (by decide) rfl (lw_g_mk tw_1441 rfl) rfl (Nat.le_of_ble_eq_true rfl) dL_law_829 ⟨by omega, by omega⟩ ?_
  refine x_istore C [(7, .int q2.1), (6, .int q1.1), (0, .ref b), (1, .ref (B + oHB)), (2, .ref (B + oMd)), (3, .ref (B + oLOut)), (4, .ref (B + oLOutD)), (5, .int i)] dL_law_832 (by decide) rfl ?_
  refine x_aload_n C dL_law_834 rfl 4 rfl ?_
  obtain ⟨q3, hk4, h⟩ := Option.bind_eq_some_iff.mp h
  refine x_callV C (As := []) (rest := []) (lw_g_mk tw_1215 rfl) (lw_g_mk tw_1216 rfl) (c_Md) (C1 := "HostelBedsModel") (T := TX6) (N := 27) (ci := 6) rfl (okX6_thrown l cy D B ek σ q2.2 q1.2 _ hk4) rfl rfl (by rw [hR9]; decide) (lw_g_mk tw_1217 rfl) (lw_g_mk tw_7 rfl) (by decide) rfl (lw_g_mk tw_1214 rfl) rfl (Nat.le_of_ble_eq_true rfl) dL_law_835 ⟨by omega, by omega⟩ ?_
  refine x_iload C dL_law_838 1 rfl ?_
  refine x_icmp_eq C (tgt := 845) dL_law_840 (by decide) (fun hc5 => ?_) (fun hc5 => ?_)
  · rw [if_pos hc5] at h
    refine x_iload C dL_law_845 1 rfl ?_
    have hJ6 : ∀ (r9 : (Mem × Mem × Mem) ⊕ Unit), jL_law10_862 σ q2 q1 = some r9 → (∀ q9, r9 = .inl q9 → ∀ nc2 ns2 : Nat, nc2 ≤ nc + 8 → ns2 ≤ ns + 48 → X p l e R s m args below meth c 9 cy D B nc2 ns2 Q 2861 [(0, .ref b), (1, .ref (B + oHB)), (2, .ref (B + oMd)), (3, .ref (B + oLOut)), (4, .ref (B + oLOutD)), (5, .int i)] [] q9.1 q9.2.1 q9.2.2) → (∀ u, r9 ≠ .inr u) → X p l e R s m args below meth c 9 cy D B (nc + 1) (ns + 6) Q 862 [(0, .ref b), (1, .ref (B + oHB)), (2, .ref (B + oMd)), (3, .ref (B + oLOut)), (4, .ref (B + oLOutD)), (5, .int i)] [] σ q2.2 q1.2 := by
      intro r9 h hcont hne
      unfold jL_law10_862 at h
      refine x_goto C (tgt := 2861) dL_law_862 (by decide) ?_
      cases h
      exact hcont _ rfl _ _ (by omega) (by omega)
    refine x_if_ne C (tgt := 862) dL_law_847 (by decide) (fun hc7 => ?_) (fun hc7 => ?_)
    · rw [if_pos hc7] at h
      refine x_sub [2, 3, 4, 5, 6, 7] rfl ?_
      exact hJ6 _ h hcont hne
    · rw [if_neg hc7] at h
      refine x_aload_n C dL_law_850 rfl 5 rfl ?_
      refine x_iconst C (v := 0) dL_law_851 (by decide) ?_
      refine x_lald C _ (c_LOut h9) (by decide : inb (0 : Int32) 1) dL_law_852 ?_
      refine x_iload C dL_law_853 0 rfl ?_
      refine x_i2l C dL_law_855 ?_
      refine x_lcmp C dL_law_856 ?_
      refine x_if_eq C (tgt := 862) dL_law_857 (by decide) (fun hc8 => ?_) (fun hc8 => ?_)
      · rw [if_pos hc8] at h
        refine x_sub [2, 3, 4, 5, 6, 7] rfl ?_
        exact hJ6 _ h hcont hne
      · rw [if_neg hc8] at h
        refine x_iconst C (v := 0) dL_law_860 (by decide) ?_
        cases h
        exact absurd rfl (hne ())
  · rw [if_neg hc5] at h
    refine x_iconst C (v := 0) dL_law_843 (by decide) ?_
    cases h
    exact absurd rfl (hne ())
def jL_law11_918 (σ : Mem) (q2 : Int32 × Mem) (q1 : Int32 × Mem) : Option ((Mem × Mem × Mem) ⊕ Unit) := (some (.inl (σ, q2.2, q1.2)))
def fL_law11 (xs : Nat → Int32) (L : Nat) (i : Int32) (σ : Mem) (μ : Mem) (ω : Mem) : Option ((Mem × Mem × Mem) ⊕ Unit) := (gd (inb (i + (1 : Int32)) L) ((fL_placed_LOut (xs (i + (1 : Int32)).toNatClampNeg) σ ω).bind fun q1 => ((fX6_placed (xs (i + (1 : Int32)).toNatClampNeg) μ).bind fun q2 => ((fX6_thrown q2.2).bind fun q3 => (if q3 = q1.1 then (if ¬ q1.1 = 0 then (jL_law11_918 σ q2 q1) else (if (lg_cmp (rJ q1.2 20 0 (0 : Int32).toNatClampNeg) q2.1.toInt64) = 0 then (jL_law11_918 σ q2 q1) else (some (.inr ())))) else (some (.inr ())))))))
set_option maxHeartbeats 4000000 in
set_option maxRecDepth 100000 in
theorem okL_law11 {p : Program} {l : Launch} {e : Env} {R : Room} {s : State} {m : MethodId} {args : Array Value} {below : List Frame} {meth : Method} {c : Code} {cy : Nat → ClassId} {D : va_G} {B : Nat} {ek : EK} {Q : State → Prop} (C : Cx p s m args c 9 cy D B ek "HostelBedsLaw" cL_law) (hlf : l.stackTraces = false) (h9 : ¬ cy 9 = 0) (hR9 : R = room_1) {b L : Nat} {xs : Nat → Int32} (hX : va_X b L xs s s.heap) (hbl : b < s.heap.size) (hbA : ¬ aB B b) (nc ns : Nat) (hnc : nc + 8 ≤ R.cells) (hns : ns + 48 ≤ R.slots) (i : Int32) (σ μ ω : Mem) (r9 : (Mem × Mem × Mem) ⊕ Unit) (h : fL_law11 xs L i σ μ ω = some r9) (hcont : ∀ q9, r9 = .inl q9 → ∀ nc2 ns2 : Nat, nc2 ≤ nc + 8 → ns2 ≤ ns + 48 → X p l e R s m args below meth c 9 cy D B nc2 ns2 Q 2861 [(0, .ref b), (1, .ref (B + oHB)), (2, .ref (B + oMd)), (3, .ref (B + oLOut)), (4, .ref (B + oLOutD)), (5, .int i)] [] q9.1 q9.2.1 q9.2.2) (hne : ∀ u, r9 ≠ .inr u) : X p l e R s m args below meth c 9 cy D B nc ns Q 865 [(0, .ref b), (1, .ref (B + oHB)), (2, .ref (B + oMd)), (3, .ref (B + oLOut)), (4, .ref (B + oLOutD)), (5, .int i)] [] σ μ ω := by
  unfold fL_law11 at h
  refine x_aload_n C dL_law_865 rfl 1 rfl ?_
  refine x_aload_n C dL_law_866 rfl 0 rfl ?_
  refine x_iload C dL_law_867 5 rfl ?_
  refine x_iconst C (v := 1) dL_law_869 (by decide) ?_
  refine x_iadd C dL_law_870 ?_
  obtain ⟨hg1, h⟩ := gd_some h
  refine x_sld C hX hbl hbA hg1 dL_law_871 ?_
  refine x_aload_n C dL_law_872 rfl 3 rfl ?_
  obtain ⟨q1, hk2, h⟩ := Option.bind_eq_some_iff.mp h
  refine x_callSW C (As := [.ref (B + oHB), .int (xs (i + (1 : Int32)).toNatClampNeg), .ref (B + oLOut)]) (rest := []) (cells2 := (nc + 1)) (slots2 := (ns + 6)) (lw_g_mk tw_838 rfl) (okL_placed_LOut l hlf cy D B ek h9 (xs (i + (1 : Int32)).toNatClampNeg) σ μ ω _ hk2) rfl rfl (by rw [hR9]; decide) (lw_g_mk tw_839 rfl) (lw_g_mk tw_0 rfl) (by decide) rfl (lw_g_mk tw_837 rfl) rfl (Nat.le_of_ble_eq_true rfl) dL_law_873 ⟨by omega, by omega⟩ rfl rfl ?_
  refine x_istore C [(6, .int q1.1), (0, .ref b), (1, .ref (B + oHB)), (2, .ref (B + oMd)), (3, .ref (B + oLOut)), (4, .ref (B + oLOutD)), (5, .int i)] dL_law_876 (by decide) rfl ?_
  refine x_aload_n C dL_law_878 rfl 3 rfl ?_
  refine x_aload_n C dL_law_879 rfl 1 rfl ?_
  refine x_iload C dL_law_880 6 rfl ?_
  refine x_iconst C (v := 1) dL_law_882 (by decide) ?_
  refine x_iadd C dL_law_883 ?_
  refine x_sld C hX hbl hbA hg1 dL_law_884 ?_
  obtain ⟨q2, hk3, h⟩ := Option.bind_eq_some_iff.mp h
  refine x_callV C (As := [.int (xs (i + (1 : Int32)).toNatClampNeg)]) (rest := []) (lw_g_mk tw_1446 rfl) (lw_g_mk tw_1447 rfl) (c_Md) (C1 := "HostelBedsModel") (T := TX6) (N := 27) (ci := 6) rfl (okX6_placed l cy D B ek (xs (i + (1 : Int32)).toNatClampNeg) σ μ q1.2 _ hk3) rfl rfl (by rw [hR9]; decide) (lw_g_mk tw_1448 rfl) (lw_g_mk tw_7 rfl) (by decide) rfl (lw_g_mk tw_1445 rfl) rfl (Nat.le_of_ble_eq_true rfl) dL_law_885 ⟨by omega, by omega⟩ ?_
  refine x_istore C [(7, .int q2.1), (6, .int q1.1), (0, .ref b), (1, .ref (B + oHB)), (2, .ref (B + oMd)), (3, .ref (B + oLOut)), (4, .ref (B + oLOutD)), (5, .int i)] dL_law_888 (by decide) rfl ?_
  refine x_aload_n C dL_law_890 rfl 4 rfl ?_
  obtain ⟨q3, hk4, h⟩ := Option.bind_eq_some_iff.mp h
  refine x_callV C (As := []) (rest := []) (lw_g_mk tw_1215 rfl) (lw_g_mk tw_1216 rfl) (c_Md) (C1 := "HostelBedsModel") (T := TX6) (N := 27) (ci := 6) rfl (okX6_thrown l cy D B ek σ q2.2 q1.2 _ hk4) rfl rfl (by rw [hR9]; decide) (lw_g_mk tw_1217 rfl) (lw_g_mk tw_7 rfl) (by decide) rfl (lw_g_mk tw_1214 rfl) rfl (Nat.le_of_ble_eq_true rfl) dL_law_891 ⟨by omega, by omega⟩ ?_
  refine x_iload C dL_law_894 1 rfl ?_
  refine x_icmp_eq C (tgt := 901) dL_law_896 (by decide) (fun hc5 => ?_) (fun hc5 => ?_)
  · rw [if_pos hc5] at h
    refine x_iload C dL_law_901 1 rfl ?_
    have hJ6 : ∀ (r9 : (Mem × Mem × Mem) ⊕ Unit), jL_law11_918 σ q2 q1 = some r9 → (∀ q9, r9 = .inl q9 → ∀ nc2 ns2 : Nat, nc2 ≤ nc + 8 → ns2 ≤ ns + 48 → X p l e R s m args below meth c 9 cy D B nc2 ns2 Q 2861 [(0, .ref b), (1, .ref (B + oHB)), (2, .ref (B + oMd)), (3, .ref (B + oLOut)), (4, .ref (B + oLOutD)), (5, .int i)] [] q9.1 q9.2.1 q9.2.2) → (∀ u, r9 ≠ .inr u) → X p l e R s m args below meth c 9 cy D B (nc + 1) (ns + 6) Q 918 [(0, .ref b), (1, .ref (B + oHB)), (2, .ref (B + oMd)), (3, .ref (B + oLOut)), (4, .ref (B + oLOutD)), (5, .int i)] [] σ q2.2 q1.2 := by
      intro r9 h hcont hne
      unfold jL_law11_918 at h
      refine x_goto C (tgt := 2861) dL_law_918 (by decide) ?_
      cases h
      exact hcont _ rfl _ _ (by omega) (by omega)
    refine x_if_ne C (tgt := 918) dL_law_903 (by decide) (fun hc7 => ?_) (fun hc7 => ?_)
    · rw [if_pos hc7] at h
      refine x_sub [2, 3, 4, 5, 6, 7] rfl ?_
      exact hJ6 _ h hcont hne
    · rw [if_neg hc7] at h
      refine x_aload_n C dL_law_906 rfl 5 rfl ?_
      refine x_iconst C (v := 0) dL_law_907 (by decide) ?_
      refine x_lald C _ (c_LOut h9) (by decide : inb (0 : Int32) 1) dL_law_908 ?_
      refine x_iload C dL_law_909 0 rfl ?_
      refine x_i2l C dL_law_911 ?_
      refine x_lcmp C dL_law_912 ?_
      refine x_if_eq C (tgt := 918) dL_law_913 (by decide) (fun hc8 => ?_) (fun hc8 => ?_)
      · rw [if_pos hc8] at h
        refine x_sub [2, 3, 4, 5, 6, 7] rfl ?_
        exact hJ6 _ h hcont hne
      · rw [if_neg hc8] at h
        refine x_iconst C (v := 0) dL_law_916 (by decide) ?_
        cases h
        exact absurd rfl (hne ())
  · rw [if_neg hc5] at h
    refine x_iconst C (v := 0) dL_law_899 (by decide) ?_
    cases h
    exact absurd rfl (hne ())
def jL_law12_974 (σ : Mem) (q2 : Int32 × Mem) (q1 : Int32 × Mem) : Option ((Mem × Mem × Mem) ⊕ Unit) := (some (.inl (σ, q2.2, q1.2)))
def fL_law12 (xs : Nat → Int32) (L : Nat) (i : Int32) (σ : Mem) (μ : Mem) (ω : Mem) : Option ((Mem × Mem × Mem) ⊕ Unit) := (gd (inb (i + (1 : Int32)) L) ((fL_roomsOf_LOut (xs (i + (1 : Int32)).toNatClampNeg) σ ω).bind fun q1 => ((fX6_roomsOf (xs (i + (1 : Int32)).toNatClampNeg) μ).bind fun q2 => ((fX6_thrown q2.2).bind fun q3 => (if q3 = q1.1 then (if ¬ q1.1 = 0 then (jL_law12_974 σ q2 q1) else (if (lg_cmp (rJ q1.2 20 0 (0 : Int32).toNatClampNeg) q2.1.toInt64) = 0 then (jL_law12_974 σ q2 q1) else (some (.inr ())))) else (some (.inr ())))))))
set_option maxHeartbeats 4000000 in
set_option maxRecDepth 100000 in
theorem okL_law12 {p : Program} {l : Launch} {e : Env} {R : Room} {s : State} {m : MethodId} {args : Array Value} {below : List Frame} {meth : Method} {c : Code} {cy : Nat → ClassId} {D : va_G} {B : Nat} {ek : EK} {Q : State → Prop} (C : Cx p s m args c 9 cy D B ek "HostelBedsLaw" cL_law) (hlf : l.stackTraces = false) (h9 : ¬ cy 9 = 0) (hR9 : R = room_1) {b L : Nat} {xs : Nat → Int32} (hX : va_X b L xs s s.heap) (hbl : b < s.heap.size) (hbA : ¬ aB B b) (nc ns : Nat) (hnc : nc + 8 ≤ R.cells) (hns : ns + 48 ≤ R.slots) (i : Int32) (σ μ ω : Mem) (r9 : (Mem × Mem × Mem) ⊕ Unit) (h : fL_law12 xs L i σ μ ω = some r9) (hcont : ∀ q9, r9 = .inl q9 → ∀ nc2 ns2 : Nat, nc2 ≤ nc + 8 → ns2 ≤ ns + 48 → X p l e R s m args below meth c 9 cy D B nc2 ns2 Q 2861 [(0, .ref b), (1, .ref (B + oHB)), (2, .ref (B + oMd)), (3, .ref (B + oLOut)), (4, .ref (B + oLOutD)), (5, .int i)] [] q9.1 q9.2.1 q9.2.2) (hne : ∀ u, r9 ≠ .inr u) : X p l e R s m args below meth c 9 cy D B nc ns Q 921 [(0, .ref b), (1, .ref (B + oHB)), (2, .ref (B + oMd)), (3, .ref (B + oLOut)), (4, .ref (B + oLOutD)), (5, .int i)] [] σ μ ω := by
  unfold fL_law12 at h
  refine x_aload_n C dL_law_921 rfl 1 rfl ?_
  refine x_aload_n C dL_law_922 rfl 0 rfl ?_
  refine x_iload C dL_law_923 5 rfl ?_
  refine x_iconst C (v := 1) dL_law_925 (by decide) ?_
  refine x_iadd C dL_law_926 ?_
  obtain ⟨hg1, h⟩ := gd_some h
  refine x_sld C hX hbl hbA hg1 dL_law_927 ?_
  refine x_aload_n C dL_law_928 rfl 3 rfl ?_
  obtain ⟨q1, hk2, h⟩ := Option.bind_eq_some_iff.mp h
  refine x_callSW C (As := [.ref (B + oHB), .int (xs (i + (1 : Int32)).toNatClampNeg), .ref (B + oLOut)]) (rest := []) (cells2 := (nc + 1)) (slots2 := (ns + 6)) (lw_g_mk tw_845 rfl) (okL_roomsOf_LOut l hlf cy D B ek h9 (xs (i + (1 : Int32)).toNatClampNeg) σ μ ω _ hk2) rfl rfl (by rw [hR9]; decide) (lw_g_mk tw_846 rfl) (lw_g_mk tw_0 rfl) (by decide) rfl (lw_g_mk tw_844 rfl) rfl (Nat.le_of_ble_eq_true rfl) dL_law_929 ⟨by omega, by omega⟩ rfl rfl ?_
  refine x_istore C [(6, .int q1.1), (0, .ref b), (1, .ref (B + oHB)), (2, .ref (B + oMd)), (3, .ref (B + oLOut)), (4, .ref (B + oLOutD)), (5, .int i)] dL_law_932 (by decide) rfl ?_
  refine x_aload_n C dL_law_934 rfl 3 rfl ?_
  refine x_aload_n C dL_law_935 rfl 1 rfl ?_
  refine x_iload C dL_law_936 6 rfl ?_
  refine x_iconst C (v := 1) dL_law_938 (by decide) ?_
  refine x_iadd C dL_law_939 ?_
  refine x_sld C hX hbl hbA hg1 dL_law_940 ?_
  obtain ⟨q2, hk3, h⟩ := Option.bind_eq_some_iff.mp h
  refine x_callV C (As := [.int (xs (i + (1 : Int32)).toNatClampNeg)]) (rest := []) (lw_g_mk tw_1508 rfl) (lw_g_mk tw_1509 rfl) (c_Md) (C1 := "HostelBedsModel") (T := TX6) (N := 27) (ci := 6) rfl (okX6_roomsOf l cy D B ek (xs (i + (1 : Int32)).toNatClampNeg) σ μ q1.2 _ hk3) rfl rfl (by rw [hR9]; decide) (lw_g_mk tw_1510 rfl) (lw_g_mk tw_7 rfl) (by decide) rfl (lw_g_mk tw_1507 rfl) rfl (Nat.le_of_ble_eq_true rfl) dL_law_941 ⟨by omega, by omega⟩ ?_
  refine x_istore C [(7, .int q2.1), (6, .int q1.1), (0, .ref b), (1, .ref (B + oHB)), (2, .ref (B + oMd)), (3, .ref (B + oLOut)), (4, .ref (B + oLOutD)), (5, .int i)] dL_law_944 (by decide) rfl ?_
  refine x_aload_n C dL_law_946 rfl 4 rfl ?_
  obtain ⟨q3, hk4, h⟩ := Option.bind_eq_some_iff.mp h
  refine x_callV C (As := []) (rest := []) (lw_g_mk tw_1215 rfl) (lw_g_mk tw_1216 rfl) (c_Md) (C1 := "HostelBedsModel") (T := TX6) (N := 27) (ci := 6) rfl (okX6_thrown l cy D B ek σ q2.2 q1.2 _ hk4) rfl rfl (by rw [hR9]; decide) (lw_g_mk tw_1217 rfl) (lw_g_mk tw_7 rfl) (by decide) rfl (lw_g_mk tw_1214 rfl) rfl (Nat.le_of_ble_eq_true rfl) dL_law_947 ⟨by omega, by omega⟩ ?_
  refine x_iload C dL_law_950 1 rfl ?_
  refine x_icmp_eq C (tgt := 957) dL_law_952 (by decide) (fun hc5 => ?_) (fun hc5 => ?_)
  · rw [if_pos hc5] at h
    refine x_iload C dL_law_957 1 rfl ?_
    have hJ6 : ∀ (r9 : (Mem × Mem × Mem) ⊕ Unit), jL_law12_974 σ q2 q1 = some r9 → (∀ q9, r9 = .inl q9 → ∀ nc2 ns2 : Nat, nc2 ≤ nc + 8 → ns2 ≤ ns + 48 → X p l e R s m args below meth c 9 cy D B nc2 ns2 Q 2861 [(0, .ref b), (1, .ref (B + oHB)), (2, .ref (B + oMd)), (3, .ref (B + oLOut)), (4, .ref (B + oLOutD)), (5, .int i)] [] q9.1 q9.2.1 q9.2.2) → (∀ u, r9 ≠ .inr u) → X p l e R s m args below meth c 9 cy D B (nc + 1) (ns + 6) Q 974 [(0, .ref b), (1, .ref (B + oHB)), (2, .ref (B + oMd)), (3, .ref (B + oLOut)), (4, .ref (B + oLOutD)), (5, .int i)] [] σ q2.2 q1.2 := by
      intro r9 h hcont hne
      unfold jL_law12_974 at h
      refine x_goto C (tgt := 2861) dL_law_974 (by decide) ?_
      cases h
      exact hcont _ rfl _ _ (by omega) (by omega)
    refine x_if_ne C (tgt := 974) dL_law_959 (by decide) (fun hc7 => ?_) (fun hc7 => ?_)
    · rw [if_pos hc7] at h
      refine x_sub [2, 3, 4, 5, 6, 7] rfl ?_
      exact hJ6 _ h hcont hne
    · rw [if_neg hc7] at h
      refine x_aload_n C dL_law_962 rfl 5 rfl ?_
      refine x_iconst C (v := 0) dL_law_963 (by decide) ?_
      refine x_lald C _ (c_LOut h9) (by decide : inb (0 : Int32) 1) dL_law_964 ?_
      refine x_iload C dL_law_965 0 rfl ?_
      refine x_i2l C dL_law_967 ?_
      refine x_lcmp C dL_law_968 ?_
      refine x_if_eq C (tgt := 974) dL_law_969 (by decide) (fun hc8 => ?_) (fun hc8 => ?_)
      · rw [if_pos hc8] at h
        refine x_sub [2, 3, 4, 5, 6, 7] rfl ?_
        exact hJ6 _ h hcont hne
      · rw [if_neg hc8] at h
        refine x_iconst C (v := 0) dL_law_972 (by decide) ?_
        cases h
        exact absurd rfl (hne ())
  · rw [if_neg hc5] at h
    refine x_iconst C (v := 0) dL_law_955 (by decide) ?_
    cases h
    exact absurd rfl (hne ())
def jL_law13_1042 (σ : Mem) (q2 : Int32 × Mem) (q1 : Int32 × Mem) : Option ((Mem × Mem × Mem) ⊕ Unit) := (some (.inl (σ, q2.2, q1.2)))
def fL_law13 (xs : Nat → Int32) (L : Nat) (i : Int32) (σ : Mem) (μ : Mem) (ω : Mem) : Option ((Mem × Mem × Mem) ⊕ Unit) := (gd (inb (i + (1 : Int32)) L) (gd (inb (i + (2 : Int32)) L) ((fL_roomOf_LOut (xs (i + (1 : Int32)).toNatClampNeg) (xs (i + (2 : Int32)).toNatClampNeg) σ ω).bind fun q1 => ((fX6_roomOf (xs (i + (1 : Int32)).toNatClampNeg) (xs (i + (2 : Int32)).toNatClampNeg) μ).bind fun q2 => ((fX6_thrown q2.2).bind fun q3 => (if q3 = q1.1 then (if ¬ q1.1 = 0 then (jL_law13_1042 σ q2 q1) else (if (lg_cmp (rJ q1.2 20 0 (0 : Int32).toNatClampNeg) q2.1.toInt64) = 0 then (jL_law13_1042 σ q2 q1) else (some (.inr ())))) else (some (.inr ()))))))))
set_option maxHeartbeats 4000000 in
set_option maxRecDepth 100000 in
theorem okL_law13 {p : Program} {l : Launch} {e : Env} {R : Room} {s : State} {m : MethodId} {args : Array Value} {below : List Frame} {meth : Method} {c : Code} {cy : Nat → ClassId} {D : va_G} {B : Nat} {ek : EK} {Q : State → Prop} (C : Cx p s m args c 9 cy D B ek "HostelBedsLaw" cL_law) (hlf : l.stackTraces = false) (h9 : ¬ cy 9 = 0) (hR9 : R = room_1) {b L : Nat} {xs : Nat → Int32} (hX : va_X b L xs s s.heap) (hbl : b < s.heap.size) (hbA : ¬ aB B b) (nc ns : Nat) (hnc : nc + 8 ≤ R.cells) (hns : ns + 48 ≤ R.slots) (i : Int32) (σ μ ω : Mem) (r9 : (Mem × Mem × Mem) ⊕ Unit) (h : fL_law13 xs L i σ μ ω = some r9) (hcont : ∀ q9, r9 = .inl q9 → ∀ nc2 ns2 : Nat, nc2 ≤ nc + 8 → ns2 ≤ ns + 48 → X p l e R s m args below meth c 9 cy D B nc2 ns2 Q 2861 [(0, .ref b), (1, .ref (B + oHB)), (2, .ref (B + oMd)), (3, .ref (B + oLOut)), (4, .ref (B + oLOutD)), (5, .int i)] [] q9.1 q9.2.1 q9.2.2) (hne : ∀ u, r9 ≠ .inr u) : X p l e R s m args below meth c 9 cy D B nc ns Q 977 [(0, .ref b), (1, .ref (B + oHB)), (2, .ref (B + oMd)), (3, .ref (B + oLOut)), (4, .ref (B + oLOutD)), (5, .int i)] [] σ μ ω := by
  unfold fL_law13 at h
  refine x_aload_n C dL_law_977 rfl 1 rfl ?_
  refine x_aload_n C dL_law_978 rfl 0 rfl ?_
  refine x_iload C dL_law_979 5 rfl ?_
  refine x_iconst C (v := 1) dL_law_981 (by decide) ?_
  refine x_iadd C dL_law_982 ?_
  obtain ⟨hg1, h⟩ := gd_some h
  refine x_sld C hX hbl hbA hg1 dL_law_983 ?_
  refine x_aload_n C dL_law_984 rfl 0 rfl ?_
  refine x_iload C dL_law_985 5 rfl ?_
  refine x_iconst C (v := 2) dL_law_987 (by decide) ?_
  refine x_iadd C dL_law_988 ?_
  obtain ⟨hg2, h⟩ := gd_some h
  refine x_sld C hX hbl hbA hg2 dL_law_989 ?_
  refine x_aload_n C dL_law_990 rfl 3 rfl ?_
  obtain ⟨q1, hk3, h⟩ := Option.bind_eq_some_iff.mp h
  refine x_callSW C (As := [.ref (B + oHB), .int (xs (i + (1 : Int32)).toNatClampNeg), .int (xs (i + (2 : Int32)).toNatClampNeg), .ref (B + oLOut)]) (rest := []) (cells2 := (nc + 2)) (slots2 := (ns + 12)) (lw_g_mk tw_852 rfl) (okL_roomOf_LOut l hlf cy D B ek h9 (xs (i + (1 : Int32)).toNatClampNeg) (xs (i + (2 : Int32)).toNatClampNeg) σ μ ω _ hk3) rfl rfl (by rw [hR9]; decide) (lw_g_mk tw_853 rfl) (lw_g_mk tw_0 rfl) (by decide) rfl (lw_g_mk tw_851 rfl) rfl (Nat.le_of_ble_eq_true rfl) dL_law_991 ⟨by omega, by omega⟩ rfl rfl ?_
  refine x_istore C [(6, .int q1.1), (0, .ref b), (1, .ref (B + oHB)), (2, .ref (B + oMd)), (3, .ref (B + oLOut)), (4, .ref (B + oLOutD)), (5, .int i)] dL_law_994 (by decide) rfl ?_
  refine x_aload_n C dL_law_996 rfl 3 rfl ?_
  refine x_aload_n C dL_law_997 rfl 1 rfl ?_
  refine x_iload C dL_law_998 6 rfl ?_
  refine x_iconst C (v := 1) dL_law_1000 (by decide) ?_
  refine x_iadd C dL_law_1001 ?_
  refine x_sld C hX hbl hbA hg1 dL_law_1002 ?_
  refine x_aload_n C dL_law_1003 rfl 1 rfl ?_
  refine x_iload C dL_law_1004 6 rfl ?_
  refine x_iconst C (v := 2) dL_law_1006 (by decide) ?_
  refine x_iadd C dL_law_1007 ?_
  refine x_sld C hX hbl hbA hg2 dL_law_1008 ?_
  obtain ⟨q2, hk4, h⟩ := Option.bind_eq_some_iff.mp h
  refine x_callV C (As := [.int (xs (i + (1 : Int32)).toNatClampNeg), .int (xs (i + (2 : Int32)).toNatClampNeg)]) (rest := []) (lw_g_mk tw_1516 rfl) (lw_g_mk tw_1517 rfl) (c_Md) (C1 := "HostelBedsModel") (T := TX6) (N := 27) (ci := 6) rfl (okX6_roomOf l cy D B ek (xs (i + (1 : Int32)).toNatClampNeg) (xs (i + (2 : Int32)).toNatClampNeg) σ μ q1.2 _ hk4) rfl rfl (by rw [hR9]; decide) (lw_g_mk tw_1518 rfl) (lw_g_mk tw_7 rfl) (by decide) rfl (lw_g_mk tw_1515 rfl) rfl (Nat.le_of_ble_eq_true rfl) dL_law_1009 ⟨by omega, by omega⟩ ?_
  refine x_istore C [(7, .int q2.1), (6, .int q1.1), (0, .ref b), (1, .ref (B + oHB)), (2, .ref (B + oMd)), (3, .ref (B + oLOut)), (4, .ref (B + oLOutD)), (5, .int i)] dL_law_1012 (by decide) rfl ?_
  refine x_aload_n C dL_law_1014 rfl 4 rfl ?_
  obtain ⟨q3, hk5, h⟩ := Option.bind_eq_some_iff.mp h
  refine x_callV C (As := []) (rest := []) (lw_g_mk tw_1215 rfl) (lw_g_mk tw_1216 rfl) (c_Md) (C1 := "HostelBedsModel") (T := TX6) (N := 27) (ci := 6) rfl (okX6_thrown l cy D B ek σ q2.2 q1.2 _ hk5) rfl rfl (by rw [hR9]; decide) (lw_g_mk tw_1217 rfl) (lw_g_mk tw_7 rfl) (by decide) rfl (lw_g_mk tw_1214 rfl) rfl (Nat.le_of_ble_eq_true rfl) dL_law_1015 ⟨by omega, by omega⟩ ?_
  refine x_iload C dL_law_1018 1 rfl ?_
  refine x_icmp_eq C (tgt := 1025) dL_law_1020 (by decide) (fun hc6 => ?_) (fun hc6 => ?_)
  · rw [if_pos hc6] at h
    refine x_iload C dL_law_1025 1 rfl ?_
    have hJ7 : ∀ (r9 : (Mem × Mem × Mem) ⊕ Unit), jL_law13_1042 σ q2 q1 = some r9 → (∀ q9, r9 = .inl q9 → ∀ nc2 ns2 : Nat, nc2 ≤ nc + 8 → ns2 ≤ ns + 48 → X p l e R s m args below meth c 9 cy D B nc2 ns2 Q 2861 [(0, .ref b), (1, .ref (B + oHB)), (2, .ref (B + oMd)), (3, .ref (B + oLOut)), (4, .ref (B + oLOutD)), (5, .int i)] [] q9.1 q9.2.1 q9.2.2) → (∀ u, r9 ≠ .inr u) → X p l e R s m args below meth c 9 cy D B (nc + 2) (ns + 12) Q 1042 [(0, .ref b), (1, .ref (B + oHB)), (2, .ref (B + oMd)), (3, .ref (B + oLOut)), (4, .ref (B + oLOutD)), (5, .int i)] [] σ q2.2 q1.2 := by
      intro r9 h hcont hne
      unfold jL_law13_1042 at h
      refine x_goto C (tgt := 2861) dL_law_1042 (by decide) ?_
      cases h
      exact hcont _ rfl _ _ (by omega) (by omega)
    refine x_if_ne C (tgt := 1042) dL_law_1027 (by decide) (fun hc8 => ?_) (fun hc8 => ?_)
    · rw [if_pos hc8] at h
      refine x_sub [2, 3, 4, 5, 6, 7] rfl ?_
      exact hJ7 _ h hcont hne
    · rw [if_neg hc8] at h
      refine x_aload_n C dL_law_1030 rfl 5 rfl ?_
      refine x_iconst C (v := 0) dL_law_1031 (by decide) ?_
      refine x_lald C _ (c_LOut h9) (by decide : inb (0 : Int32) 1) dL_law_1032 ?_
      refine x_iload C dL_law_1033 0 rfl ?_
      refine x_i2l C dL_law_1035 ?_
      refine x_lcmp C dL_law_1036 ?_
      refine x_if_eq C (tgt := 1042) dL_law_1037 (by decide) (fun hc9 => ?_) (fun hc9 => ?_)
      · rw [if_pos hc9] at h
        refine x_sub [2, 3, 4, 5, 6, 7] rfl ?_
        exact hJ7 _ h hcont hne
      · rw [if_neg hc9] at h
        refine x_iconst C (v := 0) dL_law_1040 (by decide) ?_
        cases h
        exact absurd rfl (hne ())
  · rw [if_neg hc6] at h
    refine x_iconst C (v := 0) dL_law_1023 (by decide) ?_
    cases h
    exact absurd rfl (hne ())
def jL_law14_1110 (σ : Mem) (q2 : Int32 × Mem) (q1 : Int32 × Mem) : Option ((Mem × Mem × Mem) ⊕ Unit) := (some (.inl (σ, q2.2, q1.2)))
def fL_law14 (xs : Nat → Int32) (L : Nat) (i : Int32) (σ : Mem) (μ : Mem) (ω : Mem) : Option ((Mem × Mem × Mem) ⊕ Unit) := (gd (inb (i + (1 : Int32)) L) (gd (inb (i + (2 : Int32)) L) ((fL_bedOf_LOut (xs (i + (1 : Int32)).toNatClampNeg) (xs (i + (2 : Int32)).toNatClampNeg) σ ω).bind fun q1 => ((fX6_bedOf (xs (i + (1 : Int32)).toNatClampNeg) (xs (i + (2 : Int32)).toNatClampNeg) μ).bind fun q2 => ((fX6_thrown q2.2).bind fun q3 => (if q3 = q1.1 then (if ¬ q1.1 = 0 then (jL_law14_1110 σ q2 q1) else (if (lg_cmp (rJ q1.2 20 0 (0 : Int32).toNatClampNeg) q2.1.toInt64) = 0 then (jL_law14_1110 σ q2 q1) else (some (.inr ())))) else (some (.inr ()))))))))
set_option maxHeartbeats 4000000 in
set_option maxRecDepth 100000 in
theorem okL_law14 {p : Program} {l : Launch} {e : Env} {R : Room} {s : State} {m : MethodId} {args : Array Value} {below : List Frame} {meth : Method} {c : Code} {cy : Nat → ClassId} {D : va_G} {B : Nat} {ek : EK} {Q : State → Prop} (C : Cx p s m args c 9 cy D B ek "HostelBedsLaw" cL_law) (hlf : l.stackTraces = false) (h9 : ¬ cy 9 = 0) (hR9 : R = room_1) {b L : Nat} {xs : Nat → Int32} (hX : va_X b L xs s s.heap) (hbl : b < s.heap.size) (hbA : ¬ aB B b) (nc ns : Nat) (hnc : nc + 8 ≤ R.cells) (hns : ns + 48 ≤ R.slots) (i : Int32) (σ μ ω : Mem) (r9 : (Mem × Mem × Mem) ⊕ Unit) (h : fL_law14 xs L i σ μ ω = some r9) (hcont : ∀ q9, r9 = .inl q9 → ∀ nc2 ns2 : Nat, nc2 ≤ nc + 8 → ns2 ≤ ns + 48 → X p l e R s m args below meth c 9 cy D B nc2 ns2 Q 2861 [(0, .ref b), (1, .ref (B + oHB)), (2, .ref (B + oMd)), (3, .ref (B + oLOut)), (4, .ref (B + oLOutD)), (5, .int i)] [] q9.1 q9.2.1 q9.2.2) (hne : ∀ u, r9 ≠ .inr u) : X p l e R s m args below meth c 9 cy D B nc ns Q 1045 [(0, .ref b), (1, .ref (B + oHB)), (2, .ref (B + oMd)), (3, .ref (B + oLOut)), (4, .ref (B + oLOutD)), (5, .int i)] [] σ μ ω := by
  unfold fL_law14 at h
  refine x_aload_n C dL_law_1045 rfl 1 rfl ?_
  refine x_aload_n C dL_law_1046 rfl 0 rfl ?_
  refine x_iload C dL_law_1047 5 rfl ?_
  refine x_iconst C (v := 1) dL_law_1049 (by decide) ?_
  refine x_iadd C dL_law_1050 ?_
  obtain ⟨hg1, h⟩ := gd_some h
  refine x_sld C hX hbl hbA hg1 dL_law_1051 ?_
  refine x_aload_n C dL_law_1052 rfl 0 rfl ?_
  refine x_iload C dL_law_1053 5 rfl ?_
  refine x_iconst C (v := 2) dL_law_1055 (by decide) ?_
  refine x_iadd C dL_law_1056 ?_
  obtain ⟨hg2, h⟩ := gd_some h
  refine x_sld C hX hbl hbA hg2 dL_law_1057 ?_
  refine x_aload_n C dL_law_1058 rfl 3 rfl ?_
  obtain ⟨q1, hk3, h⟩ := Option.bind_eq_some_iff.mp h
  refine x_callSW C (As := [.ref (B + oHB), .int (xs (i + (1 : Int32)).toNatClampNeg), .int (xs (i + (2 : Int32)).toNatClampNeg), .ref (B + oLOut)]) (rest := []) (cells2 := (nc + 2)) (slots2 := (ns + 12)) (lw_g_mk tw_869 rfl) (okL_bedOf_LOut l hlf cy D B ek h9 (xs (i + (1 : Int32)).toNatClampNeg) (xs (i + (2 : Int32)).toNatClampNeg) σ μ ω _ hk3) rfl rfl (by rw [hR9]; decide) (lw_g_mk tw_870 rfl) (lw_g_mk tw_0 rfl) (by decide) rfl (lw_g_mk tw_868 rfl) rfl (Nat.le_of_ble_eq_true rfl) dL_law_1059 ⟨by omega, by omega⟩ rfl rfl ?_
  refine x_istore C [(6, .int q1.1), (0, .ref b), (1, .ref (B + oHB)), (2, .ref (B + oMd)), (3, .ref (B + oLOut)), (4, .ref (B + oLOutD)), (5, .int i)] dL_law_1062 (by decide) rfl ?_
  refine x_aload_n C dL_law_1064 rfl 3 rfl ?_
  refine x_aload_n C dL_law_1065 rfl 1 rfl ?_
  refine x_iload C dL_law_1066 6 rfl ?_
  refine x_iconst C (v := 1) dL_law_1068 (by decide) ?_
  refine x_iadd C dL_law_1069 ?_
  refine x_sld C hX hbl hbA hg1 dL_law_1070 ?_
  refine x_aload_n C dL_law_1071 rfl 1 rfl ?_
  refine x_iload C dL_law_1072 6 rfl ?_
  refine x_iconst C (v := 2) dL_law_1074 (by decide) ?_
  refine x_iadd C dL_law_1075 ?_
  refine x_sld C hX hbl hbA hg2 dL_law_1076 ?_
  obtain ⟨q2, hk4, h⟩ := Option.bind_eq_some_iff.mp h
  refine x_callV C (As := [.int (xs (i + (1 : Int32)).toNatClampNeg), .int (xs (i + (2 : Int32)).toNatClampNeg)]) (rest := []) (lw_g_mk tw_1524 rfl) (lw_g_mk tw_1525 rfl) (c_Md) (C1 := "HostelBedsModel") (T := TX6) (N := 27) (ci := 6) rfl (okX6_bedOf l cy D B ek (xs (i + (1 : Int32)).toNatClampNeg) (xs (i + (2 : Int32)).toNatClampNeg) σ μ q1.2 _ hk4) rfl rfl (by rw [hR9]; decide) (lw_g_mk tw_1526 rfl) (lw_g_mk tw_7 rfl) (by decide) rfl (lw_g_mk tw_1523 rfl) rfl (Nat.le_of_ble_eq_true rfl) dL_law_1077 ⟨by omega, by omega⟩ ?_
  refine x_istore C [(7, .int q2.1), (6, .int q1.1), (0, .ref b), (1, .ref (B + oHB)), (2, .ref (B + oMd)), (3, .ref (B + oLOut)), (4, .ref (B + oLOutD)), (5, .int i)] dL_law_1080 (by decide) rfl ?_
  refine x_aload_n C dL_law_1082 rfl 4 rfl ?_
  obtain ⟨q3, hk5, h⟩ := Option.bind_eq_some_iff.mp h
  refine x_callV C (As := []) (rest := []) (lw_g_mk tw_1215 rfl) (lw_g_mk tw_1216 rfl) (c_Md) (C1 := "HostelBedsModel") (T := TX6) (N := 27) (ci := 6) rfl (okX6_thrown l cy D B ek σ q2.2 q1.2 _ hk5) rfl rfl (by rw [hR9]; decide) (lw_g_mk tw_1217 rfl) (lw_g_mk tw_7 rfl) (by decide) rfl (lw_g_mk tw_1214 rfl) rfl (Nat.le_of_ble_eq_true rfl) dL_law_1083 ⟨by omega, by omega⟩ ?_
  refine x_iload C dL_law_1086 1 rfl ?_
  refine x_icmp_eq C (tgt := 1093) dL_law_1088 (by decide) (fun hc6 => ?_) (fun hc6 => ?_)
  · rw [if_pos hc6] at h
    refine x_iload C dL_law_1093 1 rfl ?_
    have hJ7 : ∀ (r9 : (Mem × Mem × Mem) ⊕ Unit), jL_law14_1110 σ q2 q1 = some r9 → (∀ q9, r9 = .inl q9 → ∀ nc2 ns2 : Nat, nc2 ≤ nc + 8 → ns2 ≤ ns + 48 → X p l e R s m args below meth c 9 cy D B nc2 ns2 Q 2861 [(0, .ref b), (1, .ref (B + oHB)), (2, .ref (B + oMd)), (3, .ref (B + oLOut)), (4, .ref (B + oLOutD)), (5, .int i)] [] q9.1 q9.2.1 q9.2.2) → (∀ u, r9 ≠ .inr u) → X p l e R s m args below meth c 9 cy D B (nc + 2) (ns + 12) Q 1110 [(0, .ref b), (1, .ref (B + oHB)), (2, .ref (B + oMd)), (3, .ref (B + oLOut)), (4, .ref (B + oLOutD)), (5, .int i)] [] σ q2.2 q1.2 := by
      intro r9 h hcont hne
      unfold jL_law14_1110 at h
      refine x_goto C (tgt := 2861) dL_law_1110 (by decide) ?_
      cases h
      exact hcont _ rfl _ _ (by omega) (by omega)
    refine x_if_ne C (tgt := 1110) dL_law_1095 (by decide) (fun hc8 => ?_) (fun hc8 => ?_)
    · rw [if_pos hc8] at h
      refine x_sub [2, 3, 4, 5, 6, 7] rfl ?_
      exact hJ7 _ h hcont hne
    · rw [if_neg hc8] at h
      refine x_aload_n C dL_law_1098 rfl 5 rfl ?_
      refine x_iconst C (v := 0) dL_law_1099 (by decide) ?_
      refine x_lald C _ (c_LOut h9) (by decide : inb (0 : Int32) 1) dL_law_1100 ?_
      refine x_iload C dL_law_1101 0 rfl ?_
      refine x_i2l C dL_law_1103 ?_
      refine x_lcmp C dL_law_1104 ?_
      refine x_if_eq C (tgt := 1110) dL_law_1105 (by decide) (fun hc9 => ?_) (fun hc9 => ?_)
      · rw [if_pos hc9] at h
        refine x_sub [2, 3, 4, 5, 6, 7] rfl ?_
        exact hJ7 _ h hcont hne
      · rw [if_neg hc9] at h
        refine x_iconst C (v := 0) dL_law_1108 (by decide) ?_
        cases h
        exact absurd rfl (hne ())
  · rw [if_neg hc6] at h
    refine x_iconst C (v := 0) dL_law_1091 (by decide) ?_
    cases h
    exact absurd rfl (hne ())
def jL_law15_1190 (σ : Mem) (q2 : Int32 × Mem) (q1 : Int32 × Mem) : Option ((Mem × Mem × Mem) ⊕ Unit) := (some (.inl (σ, q2.2, q1.2)))
def fL_law15 (xs : Nat → Int32) (L : Nat) (i : Int32) (σ : Mem) (μ : Mem) (ω : Mem) : Option ((Mem × Mem × Mem) ⊕ Unit) := (gd (inb (i + (1 : Int32)) L) (gd (inb (i + (2 : Int32)) L) (gd (inb (i + (3 : Int32)) L) ((fL_occupant_LOut (xs (i + (1 : Int32)).toNatClampNeg) (xs (i + (2 : Int32)).toNatClampNeg) (xs (i + (3 : Int32)).toNatClampNeg) σ ω).bind fun q1 => ((fX6_occupant (xs (i + (1 : Int32)).toNatClampNeg) (xs (i + (2 : Int32)).toNatClampNeg) (xs (i + (3 : Int32)).toNatClampNeg) μ).bind fun q2 => ((fX6_thrown q2.2).bind fun q3 => (if q3 = q1.1 then (if ¬ q1.1 = 0 then (jL_law15_1190 σ q2 q1) else (if (lg_cmp (rJ q1.2 20 0 (0 : Int32).toNatClampNeg) q2.1.toInt64) = 0 then (jL_law15_1190 σ q2 q1) else (some (.inr ())))) else (some (.inr ())))))))))
set_option maxHeartbeats 4000000 in
set_option maxRecDepth 100000 in
theorem okL_law15 {p : Program} {l : Launch} {e : Env} {R : Room} {s : State} {m : MethodId} {args : Array Value} {below : List Frame} {meth : Method} {c : Code} {cy : Nat → ClassId} {D : va_G} {B : Nat} {ek : EK} {Q : State → Prop} (C : Cx p s m args c 9 cy D B ek "HostelBedsLaw" cL_law) (hlf : l.stackTraces = false) (h9 : ¬ cy 9 = 0) (hR9 : R = room_1) {b L : Nat} {xs : Nat → Int32} (hX : va_X b L xs s s.heap) (hbl : b < s.heap.size) (hbA : ¬ aB B b) (nc ns : Nat) (hnc : nc + 8 ≤ R.cells) (hns : ns + 48 ≤ R.slots) (i : Int32) (σ μ ω : Mem) (r9 : (Mem × Mem × Mem) ⊕ Unit) (h : fL_law15 xs L i σ μ ω = some r9) (hcont : ∀ q9, r9 = .inl q9 → ∀ nc2 ns2 : Nat, nc2 ≤ nc + 8 → ns2 ≤ ns + 48 → X p l e R s m args below meth c 9 cy D B nc2 ns2 Q 2861 [(0, .ref b), (1, .ref (B + oHB)), (2, .ref (B + oMd)), (3, .ref (B + oLOut)), (4, .ref (B + oLOutD)), (5, .int i)] [] q9.1 q9.2.1 q9.2.2) (hne : ∀ u, r9 ≠ .inr u) : X p l e R s m args below meth c 9 cy D B nc ns Q 1113 [(0, .ref b), (1, .ref (B + oHB)), (2, .ref (B + oMd)), (3, .ref (B + oLOut)), (4, .ref (B + oLOutD)), (5, .int i)] [] σ μ ω := by
  unfold fL_law15 at h
  refine x_aload_n C dL_law_1113 rfl 1 rfl ?_
  refine x_aload_n C dL_law_1114 rfl 0 rfl ?_
  refine x_iload C dL_law_1115 5 rfl ?_
  refine x_iconst C (v := 1) dL_law_1117 (by decide) ?_
  refine x_iadd C dL_law_1118 ?_
  obtain ⟨hg1, h⟩ := gd_some h
  refine x_sld C hX hbl hbA hg1 dL_law_1119 ?_
  refine x_aload_n C dL_law_1120 rfl 0 rfl ?_
  refine x_iload C dL_law_1121 5 rfl ?_
  refine x_iconst C (v := 2) dL_law_1123 (by decide) ?_
  refine x_iadd C dL_law_1124 ?_
  obtain ⟨hg2, h⟩ := gd_some h
  refine x_sld C hX hbl hbA hg2 dL_law_1125 ?_
  refine x_aload_n C dL_law_1126 rfl 0 rfl ?_
  refine x_iload C dL_law_1127 5 rfl ?_
  refine x_iconst C (v := 3) dL_law_1129 (by decide) ?_
  refine x_iadd C dL_law_1130 ?_
  obtain ⟨hg3, h⟩ := gd_some h
  refine x_sld C hX hbl hbA hg3 dL_law_1131 ?_
  refine x_aload_n C dL_law_1132 rfl 3 rfl ?_
  obtain ⟨q1, hk4, h⟩ := Option.bind_eq_some_iff.mp h
  refine x_callSW C (As := [.ref (B + oHB), .int (xs (i + (1 : Int32)).toNatClampNeg), .int (xs (i + (2 : Int32)).toNatClampNeg), .int (xs (i + (3 : Int32)).toNatClampNeg), .ref (B + oLOut)]) (rest := []) (cells2 := (nc + 3)) (slots2 := (ns + 18)) (lw_g_mk tw_876 rfl) (okL_occupant_LOut l hlf cy D B ek h9 (xs (i + (1 : Int32)).toNatClampNeg) (xs (i + (2 : Int32)).toNatClampNeg) (xs (i + (3 : Int32)).toNatClampNeg) σ μ ω _ hk4) rfl rfl (by rw [hR9]; decide) (lw_g_mk tw_877 rfl) (lw_g_mk tw_0 rfl) (by decide) rfl (lw_g_mk tw_875 rfl) rfl (Nat.le_of_ble_eq_true rfl) dL_law_1133 ⟨by omega, by omega⟩ rfl rfl ?_
  refine x_istore C [(6, .int q1.1), (0, .ref b), (1, .ref (B + oHB)), (2, .ref (B + oMd)), (3, .ref (B + oLOut)), (4, .ref (B + oLOutD)), (5, .int i)] dL_law_1136 (by decide) rfl ?_
  refine x_aload_n C dL_law_1138 rfl 3 rfl ?_
  refine x_aload_n C dL_law_1139 rfl 1 rfl ?_
  refine x_iload C dL_law_1140 6 rfl ?_
  refine x_iconst C (v := 1) dL_law_1142 (by decide) ?_
  refine x_iadd C dL_law_1143 ?_
  refine x_sld C hX hbl hbA hg1 dL_law_1144 ?_
  refine x_aload_n C dL_law_1145 rfl 1 rfl ?_
  refine x_iload C dL_law_1146 6 rfl ?_
  refine x_iconst C (v := 2) dL_law_1148 (by decide) ?_
  refine x_iadd C dL_law_1149 ?_
  refine x_sld C hX hbl hbA hg2 dL_law_1150 ?_
  refine x_aload_n C dL_law_1151 rfl 1 rfl ?_
  refine x_iload C dL_law_1152 6 rfl ?_
  refine x_iconst C (v := 3) dL_law_1154 (by decide) ?_
  refine x_iadd C dL_law_1155 ?_
  refine x_sld C hX hbl hbA hg3 dL_law_1156 ?_
  obtain ⟨q2, hk5, h⟩ := Option.bind_eq_some_iff.mp h
  refine x_callV C (As := [.int (xs (i + (1 : Int32)).toNatClampNeg), .int (xs (i + (2 : Int32)).toNatClampNeg), .int (xs (i + (3 : Int32)).toNatClampNeg)]) (rest := []) (lw_g_mk tw_1528 rfl) (lw_g_mk tw_1529 rfl) (c_Md) (C1 := "HostelBedsModel") (T := TX6) (N := 27) (ci := 6) rfl (okX6_occupant l cy D B ek (xs (i + (1 : Int32)).toNatClampNeg) (xs (i + (2 : Int32)).toNatClampNeg) (xs (i + (3 : Int32)).toNatClampNeg) σ μ q1.2 _ hk5) rfl rfl (by rw [hR9]; decide) (lw_g_mk tw_1530 rfl) (lw_g_mk tw_7 rfl) (by decide) rfl (lw_g_mk tw_1527 rfl) rfl (Nat.le_of_ble_eq_true rfl) dL_law_1157 ⟨by omega, by omega⟩ ?_
  refine x_istore C [(7, .int q2.1), (6, .int q1.1), (0, .ref b), (1, .ref (B + oHB)), (2, .ref (B + oMd)), (3, .ref (B + oLOut)), (4, .ref (B + oLOutD)), (5, .int i)] dL_law_1160 (by decide) rfl ?_
  refine x_aload_n C dL_law_1162 rfl 4 rfl ?_
  obtain ⟨q3, hk6, h⟩ := Option.bind_eq_some_iff.mp h
  refine x_callV C (As := []) (rest := []) (lw_g_mk tw_1215 rfl) (lw_g_mk tw_1216 rfl) (c_Md) (C1 := "HostelBedsModel") (T := TX6) (N := 27) (ci := 6) rfl (okX6_thrown l cy D B ek σ q2.2 q1.2 _ hk6) rfl rfl (by rw [hR9]; decide) (lw_g_mk tw_1217 rfl) (lw_g_mk tw_7 rfl) (by decide) rfl (lw_g_mk tw_1214 rfl) rfl (Nat.le_of_ble_eq_true rfl) dL_law_1163 ⟨by omega, by omega⟩ ?_
  refine x_iload C dL_law_1166 1 rfl ?_
  refine x_icmp_eq C (tgt := 1173) dL_law_1168 (by decide) (fun hc7 => ?_) (fun hc7 => ?_)
  · rw [if_pos hc7] at h
    refine x_iload C dL_law_1173 1 rfl ?_
    have hJ8 : ∀ (r9 : (Mem × Mem × Mem) ⊕ Unit), jL_law15_1190 σ q2 q1 = some r9 → (∀ q9, r9 = .inl q9 → ∀ nc2 ns2 : Nat, nc2 ≤ nc + 8 → ns2 ≤ ns + 48 → X p l e R s m args below meth c 9 cy D B nc2 ns2 Q 2861 [(0, .ref b), (1, .ref (B + oHB)), (2, .ref (B + oMd)), (3, .ref (B + oLOut)), (4, .ref (B + oLOutD)), (5, .int i)] [] q9.1 q9.2.1 q9.2.2) → (∀ u, r9 ≠ .inr u) → X p l e R s m args below meth c 9 cy D B (nc + 3) (ns + 18) Q 1190 [(0, .ref b), (1, .ref (B + oHB)), (2, .ref (B + oMd)), (3, .ref (B + oLOut)), (4, .ref (B + oLOutD)), (5, .int i)] [] σ q2.2 q1.2 := by
      intro r9 h hcont hne
      unfold jL_law15_1190 at h
      refine x_goto C (tgt := 2861) dL_law_1190 (by decide) ?_
      cases h
      exact hcont _ rfl _ _ (by omega) (by omega)
    refine x_if_ne C (tgt := 1190) dL_law_1175 (by decide) (fun hc9 => ?_) (fun hc9 => ?_)
    · rw [if_pos hc9] at h
      refine x_sub [2, 3, 4, 5, 6, 7] rfl ?_
      exact hJ8 _ h hcont hne
    · rw [if_neg hc9] at h
      refine x_aload_n C dL_law_1178 rfl 5 rfl ?_
      refine x_iconst C (v := 0) dL_law_1179 (by decide) ?_
      refine x_lald C _ (c_LOut h9) (by decide : inb (0 : Int32) 1) dL_law_1180 ?_
      refine x_iload C dL_law_1181 0 rfl ?_
      refine x_i2l C dL_law_1183 ?_
      refine x_lcmp C dL_law_1184 ?_
      refine x_if_eq C (tgt := 1190) dL_law_1185 (by decide) (fun hc10 => ?_) (fun hc10 => ?_)
      · rw [if_pos hc10] at h
        refine x_sub [2, 3, 4, 5, 6, 7] rfl ?_
        exact hJ8 _ h hcont hne
      · rw [if_neg hc10] at h
        refine x_iconst C (v := 0) dL_law_1188 (by decide) ?_
        cases h
        exact absurd rfl (hne ())
  · rw [if_neg hc7] at h
    refine x_iconst C (v := 0) dL_law_1171 (by decide) ?_
    cases h
    exact absurd rfl (hne ())
def jL_law16_1258 (σ : Mem) (q2 : Int32 × Mem) (q1 : Int32 × Mem) : Option ((Mem × Mem × Mem) ⊕ Unit) := (some (.inl (σ, q2.2, q1.2)))
def fL_law16 (xs : Nat → Int32) (L : Nat) (i : Int32) (σ : Mem) (μ : Mem) (ω : Mem) : Option ((Mem × Mem × Mem) ⊕ Unit) := (gd (inb (i + (1 : Int32)) L) (gd (inb (i + (2 : Int32)) L) ((fL_freeBeds_LOut (xs (i + (1 : Int32)).toNatClampNeg) (xs (i + (2 : Int32)).toNatClampNeg) σ ω).bind fun q1 => ((fX6_freeBeds (xs (i + (1 : Int32)).toNatClampNeg) (xs (i + (2 : Int32)).toNatClampNeg) μ).bind fun q2 => ((fX6_thrown q2.2).bind fun q3 => (if q3 = q1.1 then (if ¬ q1.1 = 0 then (jL_law16_1258 σ q2 q1) else (if (lg_cmp (rJ q1.2 20 0 (0 : Int32).toNatClampNeg) q2.1.toInt64) = 0 then (jL_law16_1258 σ q2 q1) else (some (.inr ())))) else (some (.inr ()))))))))
set_option maxHeartbeats 4000000 in
set_option maxRecDepth 100000 in
theorem okL_law16 {p : Program} {l : Launch} {e : Env} {R : Room} {s : State} {m : MethodId} {args : Array Value} {below : List Frame} {meth : Method} {c : Code} {cy : Nat → ClassId} {D : va_G} {B : Nat} {ek : EK} {Q : State → Prop} (C : Cx p s m args c 9 cy D B ek "HostelBedsLaw" cL_law) (hlf : l.stackTraces = false) (h9 : ¬ cy 9 = 0) (hR9 : R = room_1) {b L : Nat} {xs : Nat → Int32} (hX : va_X b L xs s s.heap) (hbl : b < s.heap.size) (hbA : ¬ aB B b) (nc ns : Nat) (hnc : nc + 8 ≤ R.cells) (hns : ns + 48 ≤ R.slots) (i : Int32) (σ μ ω : Mem) (r9 : (Mem × Mem × Mem) ⊕ Unit) (h : fL_law16 xs L i σ μ ω = some r9) (hcont : ∀ q9, r9 = .inl q9 → ∀ nc2 ns2 : Nat, nc2 ≤ nc + 8 → ns2 ≤ ns + 48 → X p l e R s m args below meth c 9 cy D B nc2 ns2 Q 2861 [(0, .ref b), (1, .ref (B + oHB)), (2, .ref (B + oMd)), (3, .ref (B + oLOut)), (4, .ref (B + oLOutD)), (5, .int i)] [] q9.1 q9.2.1 q9.2.2) (hne : ∀ u, r9 ≠ .inr u) : X p l e R s m args below meth c 9 cy D B nc ns Q 1193 [(0, .ref b), (1, .ref (B + oHB)), (2, .ref (B + oMd)), (3, .ref (B + oLOut)), (4, .ref (B + oLOutD)), (5, .int i)] [] σ μ ω := by
  unfold fL_law16 at h
  refine x_aload_n C dL_law_1193 rfl 1 rfl ?_
  refine x_aload_n C dL_law_1194 rfl 0 rfl ?_
  refine x_iload C dL_law_1195 5 rfl ?_
  refine x_iconst C (v := 1) dL_law_1197 (by decide) ?_
  refine x_iadd C dL_law_1198 ?_
  obtain ⟨hg1, h⟩ := gd_some h
  refine x_sld C hX hbl hbA hg1 dL_law_1199 ?_
  refine x_aload_n C dL_law_1200 rfl 0 rfl ?_
  refine x_iload C dL_law_1201 5 rfl ?_
  refine x_iconst C (v := 2) dL_law_1203 (by decide) ?_
  refine x_iadd C dL_law_1204 ?_
  obtain ⟨hg2, h⟩ := gd_some h
  refine x_sld C hX hbl hbA hg2 dL_law_1205 ?_
  refine x_aload_n C dL_law_1206 rfl 3 rfl ?_
  obtain ⟨q1, hk3, h⟩ := Option.bind_eq_some_iff.mp h
  refine x_callSW C (As := [.ref (B + oHB), .int (xs (i + (1 : Int32)).toNatClampNeg), .int (xs (i + (2 : Int32)).toNatClampNeg), .ref (B + oLOut)]) (rest := []) (cells2 := (nc + 2)) (slots2 := (ns + 12)) (lw_g_mk tw_898 rfl) (okL_freeBeds_LOut l hlf cy D B ek h9 (xs (i + (1 : Int32)).toNatClampNeg) (xs (i + (2 : Int32)).toNatClampNeg) σ μ ω _ hk3) rfl rfl (by rw [hR9]; decide) (lw_g_mk tw_899 rfl) (lw_g_mk tw_0 rfl) (by decide) rfl (lw_g_mk tw_897 rfl) rfl (Nat.le_of_ble_eq_true rfl) dL_law_1207 ⟨by omega, by omega⟩ rfl rfl ?_
  refine x_istore C [(6, .int q1.1), (0, .ref b), (1, .ref (B + oHB)), (2, .ref (B + oMd)), (3, .ref (B + oLOut)), (4, .ref (B + oLOutD)), (5, .int i)] dL_law_1210 (by decide) rfl ?_
  refine x_aload_n C dL_law_1212 rfl 3 rfl ?_
  refine x_aload_n C dL_law_1213 rfl 1 rfl ?_
  refine x_iload C dL_law_1214 6 rfl ?_
  refine x_iconst C (v := 1) dL_law_1216 (by decide) ?_
  refine x_iadd C dL_law_1217 ?_
  refine x_sld C hX hbl hbA hg1 dL_law_1218 ?_
  refine x_aload_n C dL_law_1219 rfl 1 rfl ?_
  refine x_iload C dL_law_1220 6 rfl ?_
  refine x_iconst C (v := 2) dL_law_1222 (by decide) ?_
  refine x_iadd C dL_law_1223 ?_
  refine x_sld C hX hbl hbA hg2 dL_law_1224 ?_
  obtain ⟨q2, hk4, h⟩ := Option.bind_eq_some_iff.mp h
  refine x_callV C (As := [.int (xs (i + (1 : Int32)).toNatClampNeg), .int (xs (i + (2 : Int32)).toNatClampNeg)]) (rest := []) (lw_g_mk tw_1539 rfl) (lw_g_mk tw_1540 rfl) (c_Md) (C1 := "HostelBedsModel") (T := TX6) (N := 27) (ci := 6) rfl (okX6_freeBeds l cy D B ek (xs (i + (1 : Int32)).toNatClampNeg) (xs (i + (2 : Int32)).toNatClampNeg) σ μ q1.2 _ hk4) rfl rfl (by rw [hR9]; decide) (lw_g_mk tw_1541 rfl) (lw_g_mk tw_7 rfl) (by decide) rfl (lw_g_mk tw_1538 rfl) rfl (Nat.le_of_ble_eq_true rfl) dL_law_1225 ⟨by omega, by omega⟩ ?_
  refine x_istore C [(7, .int q2.1), (6, .int q1.1), (0, .ref b), (1, .ref (B + oHB)), (2, .ref (B + oMd)), (3, .ref (B + oLOut)), (4, .ref (B + oLOutD)), (5, .int i)] dL_law_1228 (by decide) rfl ?_
  refine x_aload_n C dL_law_1230 rfl 4 rfl ?_
  obtain ⟨q3, hk5, h⟩ := Option.bind_eq_some_iff.mp h
  refine x_callV C (As := []) (rest := []) (lw_g_mk tw_1215 rfl) (lw_g_mk tw_1216 rfl) (c_Md) (C1 := "HostelBedsModel") (T := TX6) (N := 27) (ci := 6) rfl (okX6_thrown l cy D B ek σ q2.2 q1.2 _ hk5) rfl rfl (by rw [hR9]; decide) (lw_g_mk tw_1217 rfl) (lw_g_mk tw_7 rfl) (by decide) rfl (lw_g_mk tw_1214 rfl) rfl (Nat.le_of_ble_eq_true rfl) dL_law_1231 ⟨by omega, by omega⟩ ?_
  refine x_iload C dL_law_1234 1 rfl ?_
  refine x_icmp_eq C (tgt := 1241) dL_law_1236 (by decide) (fun hc6 => ?_) (fun hc6 => ?_)
  · rw [if_pos hc6] at h
    refine x_iload C dL_law_1241 1 rfl ?_
    have hJ7 : ∀ (r9 : (Mem × Mem × Mem) ⊕ Unit), jL_law16_1258 σ q2 q1 = some r9 → (∀ q9, r9 = .inl q9 → ∀ nc2 ns2 : Nat, nc2 ≤ nc + 8 → ns2 ≤ ns + 48 → X p l e R s m args below meth c 9 cy D B nc2 ns2 Q 2861 [(0, .ref b), (1, .ref (B + oHB)), (2, .ref (B + oMd)), (3, .ref (B + oLOut)), (4, .ref (B + oLOutD)), (5, .int i)] [] q9.1 q9.2.1 q9.2.2) → (∀ u, r9 ≠ .inr u) → X p l e R s m args below meth c 9 cy D B (nc + 2) (ns + 12) Q 1258 [(0, .ref b), (1, .ref (B + oHB)), (2, .ref (B + oMd)), (3, .ref (B + oLOut)), (4, .ref (B + oLOutD)), (5, .int i)] [] σ q2.2 q1.2 := by
      intro r9 h hcont hne
      unfold jL_law16_1258 at h
      refine x_goto C (tgt := 2861) dL_law_1258 (by decide) ?_
      cases h
      exact hcont _ rfl _ _ (by omega) (by omega)
    refine x_if_ne C (tgt := 1258) dL_law_1243 (by decide) (fun hc8 => ?_) (fun hc8 => ?_)
    · rw [if_pos hc8] at h
      refine x_sub [2, 3, 4, 5, 6, 7] rfl ?_
      exact hJ7 _ h hcont hne
    · rw [if_neg hc8] at h
      refine x_aload_n C dL_law_1246 rfl 5 rfl ?_
      refine x_iconst C (v := 0) dL_law_1247 (by decide) ?_
      refine x_lald C _ (c_LOut h9) (by decide : inb (0 : Int32) 1) dL_law_1248 ?_
      refine x_iload C dL_law_1249 0 rfl ?_
      refine x_i2l C dL_law_1251 ?_
      refine x_lcmp C dL_law_1252 ?_
      refine x_if_eq C (tgt := 1258) dL_law_1253 (by decide) (fun hc9 => ?_) (fun hc9 => ?_)
      · rw [if_pos hc9] at h
        refine x_sub [2, 3, 4, 5, 6, 7] rfl ?_
        exact hJ7 _ h hcont hne
      · rw [if_neg hc9] at h
        refine x_iconst C (v := 0) dL_law_1256 (by decide) ?_
        cases h
        exact absurd rfl (hne ())
  · rw [if_neg hc6] at h
    refine x_iconst C (v := 0) dL_law_1239 (by decide) ?_
    cases h
    exact absurd rfl (hne ())
def jL_law17_1314 (σ : Mem) (q2 : Int32 × Mem) (q1 : Int32 × Mem) : Option ((Mem × Mem × Mem) ⊕ Unit) := (some (.inl (σ, q2.2, q1.2)))
def fL_law17 (xs : Nat → Int32) (L : Nat) (i : Int32) (σ : Mem) (μ : Mem) (ω : Mem) : Option ((Mem × Mem × Mem) ⊕ Unit) := (gd (inb (i + (1 : Int32)) L) ((fL_occupied_LOut (xs (i + (1 : Int32)).toNatClampNeg) σ ω).bind fun q1 => ((fX6_occupied (xs (i + (1 : Int32)).toNatClampNeg) μ).bind fun q2 => ((fX6_thrown q2.2).bind fun q3 => (if q3 = q1.1 then (if ¬ q1.1 = 0 then (jL_law17_1314 σ q2 q1) else (if (lg_cmp (rJ q1.2 20 0 (0 : Int32).toNatClampNeg) q2.1.toInt64) = 0 then (jL_law17_1314 σ q2 q1) else (some (.inr ())))) else (some (.inr ())))))))
set_option maxHeartbeats 4000000 in
set_option maxRecDepth 100000 in
theorem okL_law17 {p : Program} {l : Launch} {e : Env} {R : Room} {s : State} {m : MethodId} {args : Array Value} {below : List Frame} {meth : Method} {c : Code} {cy : Nat → ClassId} {D : va_G} {B : Nat} {ek : EK} {Q : State → Prop} (C : Cx p s m args c 9 cy D B ek "HostelBedsLaw" cL_law) (hlf : l.stackTraces = false) (h9 : ¬ cy 9 = 0) (hR9 : R = room_1) {b L : Nat} {xs : Nat → Int32} (hX : va_X b L xs s s.heap) (hbl : b < s.heap.size) (hbA : ¬ aB B b) (nc ns : Nat) (hnc : nc + 8 ≤ R.cells) (hns : ns + 48 ≤ R.slots) (i : Int32) (σ μ ω : Mem) (r9 : (Mem × Mem × Mem) ⊕ Unit) (h : fL_law17 xs L i σ μ ω = some r9) (hcont : ∀ q9, r9 = .inl q9 → ∀ nc2 ns2 : Nat, nc2 ≤ nc + 8 → ns2 ≤ ns + 48 → X p l e R s m args below meth c 9 cy D B nc2 ns2 Q 2861 [(0, .ref b), (1, .ref (B + oHB)), (2, .ref (B + oMd)), (3, .ref (B + oLOut)), (4, .ref (B + oLOutD)), (5, .int i)] [] q9.1 q9.2.1 q9.2.2) (hne : ∀ u, r9 ≠ .inr u) : X p l e R s m args below meth c 9 cy D B nc ns Q 1261 [(0, .ref b), (1, .ref (B + oHB)), (2, .ref (B + oMd)), (3, .ref (B + oLOut)), (4, .ref (B + oLOutD)), (5, .int i)] [] σ μ ω := by
  unfold fL_law17 at h
  refine x_aload_n C dL_law_1261 rfl 1 rfl ?_
  refine x_aload_n C dL_law_1262 rfl 0 rfl ?_
  refine x_iload C dL_law_1263 5 rfl ?_
  refine x_iconst C (v := 1) dL_law_1265 (by decide) ?_
  refine x_iadd C dL_law_1266 ?_
  obtain ⟨hg1, h⟩ := gd_some h
  refine x_sld C hX hbl hbA hg1 dL_law_1267 ?_
  refine x_aload_n C dL_law_1268 rfl 3 rfl ?_
  obtain ⟨q1, hk2, h⟩ := Option.bind_eq_some_iff.mp h
  refine x_callSW C (As := [.ref (B + oHB), .int (xs (i + (1 : Int32)).toNatClampNeg), .ref (B + oLOut)]) (rest := []) (cells2 := (nc + 1)) (slots2 := (ns + 6)) (lw_g_mk tw_905 rfl) (okL_occupied_LOut l hlf cy D B ek h9 (xs (i + (1 : Int32)).toNatClampNeg) σ μ ω _ hk2) rfl rfl (by rw [hR9]; decide) (lw_g_mk tw_906 rfl) (lw_g_mk tw_0 rfl) (by decide) rfl (lw_g_mk tw_904 rfl) rfl (Nat.le_of_ble_eq_true rfl) dL_law_1269 ⟨by omega, by omega⟩ rfl rfl ?_
  refine x_istore C [(6, .int q1.1), (0, .ref b), (1, .ref (B + oHB)), (2, .ref (B + oMd)), (3, .ref (B + oLOut)), (4, .ref (B + oLOutD)), (5, .int i)] dL_law_1272 (by decide) rfl ?_
  refine x_aload_n C dL_law_1274 rfl 3 rfl ?_
  refine x_aload_n C dL_law_1275 rfl 1 rfl ?_
  refine x_iload C dL_law_1276 6 rfl ?_
  refine x_iconst C (v := 1) dL_law_1278 (by decide) ?_
  refine x_iadd C dL_law_1279 ?_
  refine x_sld C hX hbl hbA hg1 dL_law_1280 ?_
  obtain ⟨q2, hk3, h⟩ := Option.bind_eq_some_iff.mp h
  refine x_callV C (As := [.int (xs (i + (1 : Int32)).toNatClampNeg)]) (rest := []) (lw_g_mk tw_1547 rfl) (lw_g_mk tw_1548 rfl) (c_Md) (C1 := "HostelBedsModel") (T := TX6) (N := 27) (ci := 6) rfl (okX6_occupied l cy D B ek (xs (i + (1 : Int32)).toNatClampNeg) σ μ q1.2 _ hk3) rfl rfl (by rw [hR9]; decide) (lw_g_mk tw_1549 rfl) (lw_g_mk tw_7 rfl) (by decide) rfl (lw_g_mk tw_1546 rfl) rfl (Nat.le_of_ble_eq_true rfl) dL_law_1281 ⟨by omega, by omega⟩ ?_
  refine x_istore C [(7, .int q2.1), (6, .int q1.1), (0, .ref b), (1, .ref (B + oHB)), (2, .ref (B + oMd)), (3, .ref (B + oLOut)), (4, .ref (B + oLOutD)), (5, .int i)] dL_law_1284 (by decide) rfl ?_
  refine x_aload_n C dL_law_1286 rfl 4 rfl ?_
  obtain ⟨q3, hk4, h⟩ := Option.bind_eq_some_iff.mp h
  refine x_callV C (As := []) (rest := []) (lw_g_mk tw_1215 rfl) (lw_g_mk tw_1216 rfl) (c_Md) (C1 := "HostelBedsModel") (T := TX6) (N := 27) (ci := 6) rfl (okX6_thrown l cy D B ek σ q2.2 q1.2 _ hk4) rfl rfl (by rw [hR9]; decide) (lw_g_mk tw_1217 rfl) (lw_g_mk tw_7 rfl) (by decide) rfl (lw_g_mk tw_1214 rfl) rfl (Nat.le_of_ble_eq_true rfl) dL_law_1287 ⟨by omega, by omega⟩ ?_
  refine x_iload C dL_law_1290 1 rfl ?_
  refine x_icmp_eq C (tgt := 1297) dL_law_1292 (by decide) (fun hc5 => ?_) (fun hc5 => ?_)
  · rw [if_pos hc5] at h
    refine x_iload C dL_law_1297 1 rfl ?_
    have hJ6 : ∀ (r9 : (Mem × Mem × Mem) ⊕ Unit), jL_law17_1314 σ q2 q1 = some r9 → (∀ q9, r9 = .inl q9 → ∀ nc2 ns2 : Nat, nc2 ≤ nc + 8 → ns2 ≤ ns + 48 → X p l e R s m args below meth c 9 cy D B nc2 ns2 Q 2861 [(0, .ref b), (1, .ref (B + oHB)), (2, .ref (B + oMd)), (3, .ref (B + oLOut)), (4, .ref (B + oLOutD)), (5, .int i)] [] q9.1 q9.2.1 q9.2.2) → (∀ u, r9 ≠ .inr u) → X p l e R s m args below meth c 9 cy D B (nc + 1) (ns + 6) Q 1314 [(0, .ref b), (1, .ref (B + oHB)), (2, .ref (B + oMd)), (3, .ref (B + oLOut)), (4, .ref (B + oLOutD)), (5, .int i)] [] σ q2.2 q1.2 := by
      intro r9 h hcont hne
      unfold jL_law17_1314 at h
      refine x_goto C (tgt := 2861) dL_law_1314 (by decide) ?_
      cases h
      exact hcont _ rfl _ _ (by omega) (by omega)
    refine x_if_ne C (tgt := 1314) dL_law_1299 (by decide) (fun hc7 => ?_) (fun hc7 => ?_)
    · rw [if_pos hc7] at h
      refine x_sub [2, 3, 4, 5, 6, 7] rfl ?_
      exact hJ6 _ h hcont hne
    · rw [if_neg hc7] at h
      refine x_aload_n C dL_law_1302 rfl 5 rfl ?_
      refine x_iconst C (v := 0) dL_law_1303 (by decide) ?_
      refine x_lald C _ (c_LOut h9) (by decide : inb (0 : Int32) 1) dL_law_1304 ?_
      refine x_iload C dL_law_1305 0 rfl ?_
      refine x_i2l C dL_law_1307 ?_
      refine x_lcmp C dL_law_1308 ?_
      refine x_if_eq C (tgt := 1314) dL_law_1309 (by decide) (fun hc8 => ?_) (fun hc8 => ?_)
      · rw [if_pos hc8] at h
        refine x_sub [2, 3, 4, 5, 6, 7] rfl ?_
        exact hJ6 _ h hcont hne
      · rw [if_neg hc8] at h
        refine x_iconst C (v := 0) dL_law_1312 (by decide) ?_
        cases h
        exact absurd rfl (hne ())
  · rw [if_neg hc5] at h
    refine x_iconst C (v := 0) dL_law_1295 (by decide) ?_
    cases h
    exact absurd rfl (hne ())
def jL_law18_1370 (σ : Mem) (q2 : Int32 × Mem) (q1 : Int32 × Mem) : Option ((Mem × Mem × Mem) ⊕ Unit) := (some (.inl (σ, q2.2, q1.2)))
def fL_law18 (xs : Nat → Int32) (L : Nat) (i : Int32) (σ : Mem) (μ : Mem) (ω : Mem) : Option ((Mem × Mem × Mem) ⊕ Unit) := (gd (inb (i + (1 : Int32)) L) ((fL_booked_LOut (xs (i + (1 : Int32)).toNatClampNeg) σ ω).bind fun q1 => ((fX6_booked (xs (i + (1 : Int32)).toNatClampNeg) μ).bind fun q2 => ((fX6_thrown q2.2).bind fun q3 => (if q3 = q1.1 then (if ¬ q1.1 = 0 then (jL_law18_1370 σ q2 q1) else (if (lg_cmp (rJ q1.2 20 0 (0 : Int32).toNatClampNeg) q2.1.toInt64) = 0 then (jL_law18_1370 σ q2 q1) else (some (.inr ())))) else (some (.inr ())))))))
set_option maxHeartbeats 4000000 in
set_option maxRecDepth 100000 in
theorem okL_law18 {p : Program} {l : Launch} {e : Env} {R : Room} {s : State} {m : MethodId} {args : Array Value} {below : List Frame} {meth : Method} {c : Code} {cy : Nat → ClassId} {D : va_G} {B : Nat} {ek : EK} {Q : State → Prop} (C : Cx p s m args c 9 cy D B ek "HostelBedsLaw" cL_law) (hlf : l.stackTraces = false) (h9 : ¬ cy 9 = 0) (hR9 : R = room_1) {b L : Nat} {xs : Nat → Int32} (hX : va_X b L xs s s.heap) (hbl : b < s.heap.size) (hbA : ¬ aB B b) (nc ns : Nat) (hnc : nc + 8 ≤ R.cells) (hns : ns + 48 ≤ R.slots) (i : Int32) (σ μ ω : Mem) (r9 : (Mem × Mem × Mem) ⊕ Unit) (h : fL_law18 xs L i σ μ ω = some r9) (hcont : ∀ q9, r9 = .inl q9 → ∀ nc2 ns2 : Nat, nc2 ≤ nc + 8 → ns2 ≤ ns + 48 → X p l e R s m args below meth c 9 cy D B nc2 ns2 Q 2861 [(0, .ref b), (1, .ref (B + oHB)), (2, .ref (B + oMd)), (3, .ref (B + oLOut)), (4, .ref (B + oLOutD)), (5, .int i)] [] q9.1 q9.2.1 q9.2.2) (hne : ∀ u, r9 ≠ .inr u) : X p l e R s m args below meth c 9 cy D B nc ns Q 1317 [(0, .ref b), (1, .ref (B + oHB)), (2, .ref (B + oMd)), (3, .ref (B + oLOut)), (4, .ref (B + oLOutD)), (5, .int i)] [] σ μ ω := by
  unfold fL_law18 at h
  refine x_aload_n C dL_law_1317 rfl 1 rfl ?_
  refine x_aload_n C dL_law_1318 rfl 0 rfl ?_
  refine x_iload C dL_law_1319 5 rfl ?_
  refine x_iconst C (v := 1) dL_law_1321 (by decide) ?_
  refine x_iadd C dL_law_1322 ?_
  obtain ⟨hg1, h⟩ := gd_some h
  refine x_sld C hX hbl hbA hg1 dL_law_1323 ?_
  refine x_aload_n C dL_law_1324 rfl 3 rfl ?_
  obtain ⟨q1, hk2, h⟩ := Option.bind_eq_some_iff.mp h
  refine x_callSW C (As := [.ref (B + oHB), .int (xs (i + (1 : Int32)).toNatClampNeg), .ref (B + oLOut)]) (rest := []) (cells2 := (nc + 1)) (slots2 := (ns + 6)) (lw_g_mk tw_912 rfl) (okL_booked_LOut l hlf cy D B ek h9 (xs (i + (1 : Int32)).toNatClampNeg) σ μ ω _ hk2) rfl rfl (by rw [hR9]; decide) (lw_g_mk tw_913 rfl) (lw_g_mk tw_0 rfl) (by decide) rfl (lw_g_mk tw_911 rfl) rfl (Nat.le_of_ble_eq_true rfl) dL_law_1325 ⟨by omega, by omega⟩ rfl rfl ?_
  refine x_istore C [(6, .int q1.1), (0, .ref b), (1, .ref (B + oHB)), (2, .ref (B + oMd)), (3, .ref (B + oLOut)), (4, .ref (B + oLOutD)), (5, .int i)] dL_law_1328 (by decide) rfl ?_
  refine x_aload_n C dL_law_1330 rfl 3 rfl ?_
  refine x_aload_n C dL_law_1331 rfl 1 rfl ?_
  refine x_iload C dL_law_1332 6 rfl ?_
  refine x_iconst C (v := 1) dL_law_1334 (by decide) ?_
  refine x_iadd C dL_law_1335 ?_
  refine x_sld C hX hbl hbA hg1 dL_law_1336 ?_
  obtain ⟨q2, hk3, h⟩ := Option.bind_eq_some_iff.mp h
  refine x_callV C (As := [.int (xs (i + (1 : Int32)).toNatClampNeg)]) (rest := []) (lw_g_mk tw_1555 rfl) (lw_g_mk tw_1556 rfl) (c_Md) (C1 := "HostelBedsModel") (T := TX6) (N := 27) (ci := 6) rfl (okX6_booked l cy D B ek (xs (i + (1 : Int32)).toNatClampNeg) σ μ q1.2 _ hk3) rfl rfl (by rw [hR9]; decide) (lw_g_mk tw_1557 rfl) (lw_g_mk tw_7 rfl) (by decide) rfl (lw_g_mk tw_1554 rfl) rfl (Nat.le_of_ble_eq_true rfl) dL_law_1337 ⟨by omega, by omega⟩ ?_
  refine x_istore C [(7, .int q2.1), (6, .int q1.1), (0, .ref b), (1, .ref (B + oHB)), (2, .ref (B + oMd)), (3, .ref (B + oLOut)), (4, .ref (B + oLOutD)), (5, .int i)] dL_law_1340 (by decide) rfl ?_
  refine x_aload_n C dL_law_1342 rfl 4 rfl ?_
  obtain ⟨q3, hk4, h⟩ := Option.bind_eq_some_iff.mp h
  refine x_callV C (As := []) (rest := []) (lw_g_mk tw_1215 rfl) (lw_g_mk tw_1216 rfl) (c_Md) (C1 := "HostelBedsModel") (T := TX6) (N := 27) (ci := 6) rfl (okX6_thrown l cy D B ek σ q2.2 q1.2 _ hk4) rfl rfl (by rw [hR9]; decide) (lw_g_mk tw_1217 rfl) (lw_g_mk tw_7 rfl) (by decide) rfl (lw_g_mk tw_1214 rfl) rfl (Nat.le_of_ble_eq_true rfl) dL_law_1343 ⟨by omega, by omega⟩ ?_
  refine x_iload C dL_law_1346 1 rfl ?_
  refine x_icmp_eq C (tgt := 1353) dL_law_1348 (by decide) (fun hc5 => ?_) (fun hc5 => ?_)
  · rw [if_pos hc5] at h
    refine x_iload C dL_law_1353 1 rfl ?_
    have hJ6 : ∀ (r9 : (Mem × Mem × Mem) ⊕ Unit), jL_law18_1370 σ q2 q1 = some r9 → (∀ q9, r9 = .inl q9 → ∀ nc2 ns2 : Nat, nc2 ≤ nc + 8 → ns2 ≤ ns + 48 → X p l e R s m args below meth c 9 cy D B nc2 ns2 Q 2861 [(0, .ref b), (1, .ref (B + oHB)), (2, .ref (B + oMd)), (3, .ref (B + oLOut)), (4, .ref (B + oLOutD)), (5, .int i)] [] q9.1 q9.2.1 q9.2.2) → (∀ u, r9 ≠ .inr u) → X p l e R s m args below meth c 9 cy D B (nc + 1) (ns + 6) Q 1370 [(0, .ref b), (1, .ref (B + oHB)), (2, .ref (B + oMd)), (3, .ref (B + oLOut)), (4, .ref (B + oLOutD)), (5, .int i)] [] σ q2.2 q1.2 := by
      intro r9 h hcont hne
      unfold jL_law18_1370 at h
      refine x_goto C (tgt := 2861) dL_law_1370 (by decide) ?_
      cases h
      exact hcont _ rfl _ _ (by omega) (by omega)
    refine x_if_ne C (tgt := 1370) dL_law_1355 (by decide) (fun hc7 => ?_) (fun hc7 => ?_)
    · rw [if_pos hc7] at h
      refine x_sub [2, 3, 4, 5, 6, 7] rfl ?_
      exact hJ6 _ h hcont hne
    · rw [if_neg hc7] at h
      refine x_aload_n C dL_law_1358 rfl 5 rfl ?_
      refine x_iconst C (v := 0) dL_law_1359 (by decide) ?_
      refine x_lald C _ (c_LOut h9) (by decide : inb (0 : Int32) 1) dL_law_1360 ?_
      refine x_iload C dL_law_1361 0 rfl ?_
      refine x_i2l C dL_law_1363 ?_
      refine x_lcmp C dL_law_1364 ?_
      refine x_if_eq C (tgt := 1370) dL_law_1365 (by decide) (fun hc8 => ?_) (fun hc8 => ?_)
      · rw [if_pos hc8] at h
        refine x_sub [2, 3, 4, 5, 6, 7] rfl ?_
        exact hJ6 _ h hcont hne
      · rw [if_neg hc8] at h
        refine x_iconst C (v := 0) dL_law_1368 (by decide) ?_
        cases h
        exact absurd rfl (hne ())
  · rw [if_neg hc5] at h
    refine x_iconst C (v := 0) dL_law_1351 (by decide) ?_
    cases h
    exact absurd rfl (hne ())
def jL_law19_1426 (σ : Mem) (q2 : Int32 × Mem) (q1 : Int32 × Mem) : Option ((Mem × Mem × Mem) ⊕ Unit) := (some (.inl (σ, q2.2, q1.2)))
def fL_law19 (xs : Nat → Int32) (L : Nat) (i : Int32) (σ : Mem) (μ : Mem) (ω : Mem) : Option ((Mem × Mem × Mem) ⊕ Unit) := (gd (inb (i + (1 : Int32)) L) ((fL_walked_LOut (xs (i + (1 : Int32)).toNatClampNeg) σ ω).bind fun q1 => ((fX6_walked (xs (i + (1 : Int32)).toNatClampNeg) μ).bind fun q2 => ((fX6_thrown q2.2).bind fun q3 => (if q3 = q1.1 then (if ¬ q1.1 = 0 then (jL_law19_1426 σ q2 q1) else (if (lg_cmp (rJ q1.2 20 0 (0 : Int32).toNatClampNeg) q2.1.toInt64) = 0 then (jL_law19_1426 σ q2 q1) else (some (.inr ())))) else (some (.inr ())))))))
set_option maxHeartbeats 4000000 in
set_option maxRecDepth 100000 in
theorem okL_law19 {p : Program} {l : Launch} {e : Env} {R : Room} {s : State} {m : MethodId} {args : Array Value} {below : List Frame} {meth : Method} {c : Code} {cy : Nat → ClassId} {D : va_G} {B : Nat} {ek : EK} {Q : State → Prop} (C : Cx p s m args c 9 cy D B ek "HostelBedsLaw" cL_law) (hlf : l.stackTraces = false) (h9 : ¬ cy 9 = 0) (hR9 : R = room_1) {b L : Nat} {xs : Nat → Int32} (hX : va_X b L xs s s.heap) (hbl : b < s.heap.size) (hbA : ¬ aB B b) (nc ns : Nat) (hnc : nc + 8 ≤ R.cells) (hns : ns + 48 ≤ R.slots) (i : Int32) (σ μ ω : Mem) (r9 : (Mem × Mem × Mem) ⊕ Unit) (h : fL_law19 xs L i σ μ ω = some r9) (hcont : ∀ q9, r9 = .inl q9 → ∀ nc2 ns2 : Nat, nc2 ≤ nc + 8 → ns2 ≤ ns + 48 → X p l e R s m args below meth c 9 cy D B nc2 ns2 Q 2861 [(0, .ref b), (1, .ref (B + oHB)), (2, .ref (B + oMd)), (3, .ref (B + oLOut)), (4, .ref (B + oLOutD)), (5, .int i)] [] q9.1 q9.2.1 q9.2.2) (hne : ∀ u, r9 ≠ .inr u) : X p l e R s m args below meth c 9 cy D B nc ns Q 1373 [(0, .ref b), (1, .ref (B + oHB)), (2, .ref (B + oMd)), (3, .ref (B + oLOut)), (4, .ref (B + oLOutD)), (5, .int i)] [] σ μ ω := by
  unfold fL_law19 at h
  refine x_aload_n C dL_law_1373 rfl 1 rfl ?_
  refine x_aload_n C dL_law_1374 rfl 0 rfl ?_
  refine x_iload C dL_law_1375 5 rfl ?_
  refine x_iconst C (v := 1) dL_law_1377 (by decide) ?_
  refine x_iadd C dL_law_1378 ?_
  obtain ⟨hg1, h⟩ := gd_some h
  refine x_sld C hX hbl hbA hg1 dL_law_1379 ?_
  refine x_aload_n C dL_law_1380 rfl 3 rfl ?_
  obtain ⟨q1, hk2, h⟩ := Option.bind_eq_some_iff.mp h
  refine x_callSW C (As := [.ref (B + oHB), .int (xs (i + (1 : Int32)).toNatClampNeg), .ref (B + oLOut)]) (rest := []) (cells2 := (nc + 1)) (slots2 := (ns + 6)) (lw_g_mk tw_919 rfl) (okL_walked_LOut l hlf cy D B ek h9 (xs (i + (1 : Int32)).toNatClampNeg) σ μ ω _ hk2) rfl rfl (by rw [hR9]; decide) (lw_g_mk tw_920 rfl) (lw_g_mk tw_0 rfl) (by decide) rfl (lw_g_mk tw_918 rfl) rfl (Nat.le_of_ble_eq_true rfl) dL_law_1381 ⟨by omega, by omega⟩ rfl rfl ?_
  refine x_istore C [(6, .int q1.1), (0, .ref b), (1, .ref (B + oHB)), (2, .ref (B + oMd)), (3, .ref (B + oLOut)), (4, .ref (B + oLOutD)), (5, .int i)] dL_law_1384 (by decide) rfl ?_
  refine x_aload_n C dL_law_1386 rfl 3 rfl ?_
  refine x_aload_n C dL_law_1387 rfl 1 rfl ?_
  refine x_iload C dL_law_1388 6 rfl ?_
  refine x_iconst C (v := 1) dL_law_1390 (by decide) ?_
  refine x_iadd C dL_law_1391 ?_
  refine x_sld C hX hbl hbA hg1 dL_law_1392 ?_
  obtain ⟨q2, hk3, h⟩ := Option.bind_eq_some_iff.mp h
  refine x_callV C (As := [.int (xs (i + (1 : Int32)).toNatClampNeg)]) (rest := []) (lw_g_mk tw_1559 rfl) (lw_g_mk tw_1560 rfl) (c_Md) (C1 := "HostelBedsModel") (T := TX6) (N := 27) (ci := 6) rfl (okX6_walked l cy D B ek (xs (i + (1 : Int32)).toNatClampNeg) σ μ q1.2 _ hk3) rfl rfl (by rw [hR9]; decide) (lw_g_mk tw_1561 rfl) (lw_g_mk tw_7 rfl) (by decide) rfl (lw_g_mk tw_1558 rfl) rfl (Nat.le_of_ble_eq_true rfl) dL_law_1393 ⟨by omega, by omega⟩ ?_
  refine x_istore C [(7, .int q2.1), (6, .int q1.1), (0, .ref b), (1, .ref (B + oHB)), (2, .ref (B + oMd)), (3, .ref (B + oLOut)), (4, .ref (B + oLOutD)), (5, .int i)] dL_law_1396 (by decide) rfl ?_
  refine x_aload_n C dL_law_1398 rfl 4 rfl ?_
  obtain ⟨q3, hk4, h⟩ := Option.bind_eq_some_iff.mp h
  refine x_callV C (As := []) (rest := []) (lw_g_mk tw_1215 rfl) (lw_g_mk tw_1216 rfl) (c_Md) (C1 := "HostelBedsModel") (T := TX6) (N := 27) (ci := 6) rfl (okX6_thrown l cy D B ek σ q2.2 q1.2 _ hk4) rfl rfl (by rw [hR9]; decide) (lw_g_mk tw_1217 rfl) (lw_g_mk tw_7 rfl) (by decide) rfl (lw_g_mk tw_1214 rfl) rfl (Nat.le_of_ble_eq_true rfl) dL_law_1399 ⟨by omega, by omega⟩ ?_
  refine x_iload C dL_law_1402 1 rfl ?_
  refine x_icmp_eq C (tgt := 1409) dL_law_1404 (by decide) (fun hc5 => ?_) (fun hc5 => ?_)
  · rw [if_pos hc5] at h
    refine x_iload C dL_law_1409 1 rfl ?_
    have hJ6 : ∀ (r9 : (Mem × Mem × Mem) ⊕ Unit), jL_law19_1426 σ q2 q1 = some r9 → (∀ q9, r9 = .inl q9 → ∀ nc2 ns2 : Nat, nc2 ≤ nc + 8 → ns2 ≤ ns + 48 → X p l e R s m args below meth c 9 cy D B nc2 ns2 Q 2861 [(0, .ref b), (1, .ref (B + oHB)), (2, .ref (B + oMd)), (3, .ref (B + oLOut)), (4, .ref (B + oLOutD)), (5, .int i)] [] q9.1 q9.2.1 q9.2.2) → (∀ u, r9 ≠ .inr u) → X p l e R s m args below meth c 9 cy D B (nc + 1) (ns + 6) Q 1426 [(0, .ref b), (1, .ref (B + oHB)), (2, .ref (B + oMd)), (3, .ref (B + oLOut)), (4, .ref (B + oLOutD)), (5, .int i)] [] σ q2.2 q1.2 := by
      intro r9 h hcont hne
      unfold jL_law19_1426 at h
      refine x_goto C (tgt := 2861) dL_law_1426 (by decide) ?_
      cases h
      exact hcont _ rfl _ _ (by omega) (by omega)
    refine x_if_ne C (tgt := 1426) dL_law_1411 (by decide) (fun hc7 => ?_) (fun hc7 => ?_)
    · rw [if_pos hc7] at h
      refine x_sub [2, 3, 4, 5, 6, 7] rfl ?_
      exact hJ6 _ h hcont hne
    · rw [if_neg hc7] at h
      refine x_aload_n C dL_law_1414 rfl 5 rfl ?_
      refine x_iconst C (v := 0) dL_law_1415 (by decide) ?_
      refine x_lald C _ (c_LOut h9) (by decide : inb (0 : Int32) 1) dL_law_1416 ?_
      refine x_iload C dL_law_1417 0 rfl ?_
      refine x_i2l C dL_law_1419 ?_
      refine x_lcmp C dL_law_1420 ?_
      refine x_if_eq C (tgt := 1426) dL_law_1421 (by decide) (fun hc8 => ?_) (fun hc8 => ?_)
      · rw [if_pos hc8] at h
        refine x_sub [2, 3, 4, 5, 6, 7] rfl ?_
        exact hJ6 _ h hcont hne
      · rw [if_neg hc8] at h
        refine x_iconst C (v := 0) dL_law_1424 (by decide) ?_
        cases h
        exact absurd rfl (hne ())
  · rw [if_neg hc5] at h
    refine x_iconst C (v := 0) dL_law_1407 (by decide) ?_
    cases h
    exact absurd rfl (hne ())
def fL_law20 (xs : Nat → Int32) (L : Nat) (i : Int32) (σ : Mem) (μ : Mem) (ω : Mem) : Option ((Mem × Mem × Mem) ⊕ Unit) := ((fX5_fullNights σ).bind fun q1 => ((fX6_fullNights μ).bind fun q2 => (if q1 = q2.1 then (some (.inl (σ, q2.2, ω))) else (some (.inr ())))))
set_option maxHeartbeats 4000000 in
set_option maxRecDepth 100000 in
theorem okL_law20 {p : Program} {l : Launch} {e : Env} {R : Room} {s : State} {m : MethodId} {args : Array Value} {below : List Frame} {meth : Method} {c : Code} {cy : Nat → ClassId} {D : va_G} {B : Nat} {ek : EK} {Q : State → Prop} (C : Cx p s m args c 9 cy D B ek "HostelBedsLaw" cL_law) (hlf : l.stackTraces = false) (h9 : ¬ cy 9 = 0) (hR9 : R = room_1) {b L : Nat} {xs : Nat → Int32} (hX : va_X b L xs s s.heap) (hbl : b < s.heap.size) (hbA : ¬ aB B b) (nc ns : Nat) (hnc : nc + 8 ≤ R.cells) (hns : ns + 48 ≤ R.slots) (i : Int32) (σ μ ω : Mem) (r9 : (Mem × Mem × Mem) ⊕ Unit) (h : fL_law20 xs L i σ μ ω = some r9) (hcont : ∀ q9, r9 = .inl q9 → ∀ nc2 ns2 : Nat, nc2 ≤ nc + 8 → ns2 ≤ ns + 48 → X p l e R s m args below meth c 9 cy D B nc2 ns2 Q 2861 [(0, .ref b), (1, .ref (B + oHB)), (2, .ref (B + oMd)), (3, .ref (B + oLOut)), (4, .ref (B + oLOutD)), (5, .int i)] [] q9.1 q9.2.1 q9.2.2) (hne : ∀ u, r9 ≠ .inr u) : X p l e R s m args below meth c 9 cy D B nc ns Q 1429 [(0, .ref b), (1, .ref (B + oHB)), (2, .ref (B + oMd)), (3, .ref (B + oLOut)), (4, .ref (B + oLOutD)), (5, .int i)] [] σ μ ω := by
  unfold fL_law20 at h
  refine x_aload_n C dL_law_1429 rfl 1 rfl ?_
  obtain ⟨q1, hk1, h⟩ := Option.bind_eq_some_iff.mp h
  refine x_callV C (As := []) (rest := []) (lw_g_mk tw_331 rfl) (lw_g_mk tw_332 rfl) (c_HB) (C1 := "HostelBeds") (T := TX5) (N := 12) (ci := 5) rfl (okX5_fullNights l cy D B ek σ μ ω _ hk1) rfl rfl (by rw [hR9]; decide) (lw_g_mk tw_333 rfl) (lw_g_mk tw_1 rfl) (by decide) rfl (lw_g_mk tw_330 rfl) rfl (Nat.le_of_ble_eq_true rfl) dL_law_1430 ⟨by omega, by omega⟩ ?_
  refine x_aload_n C dL_law_1433 rfl 2 rfl ?_
  obtain ⟨q2, hk2, h⟩ := Option.bind_eq_some_iff.mp h
  refine x_callV C (As := []) (rest := [.int q1]) (lw_g_mk tw_1567 rfl) (lw_g_mk tw_1568 rfl) (c_Md) (C1 := "HostelBedsModel") (T := TX6) (N := 27) (ci := 6) rfl (okX6_fullNights l cy D B ek σ μ ω _ hk2) rfl rfl (by rw [hR9]; decide) (lw_g_mk tw_1569 rfl) (lw_g_mk tw_7 rfl) (by decide) rfl (lw_g_mk tw_1566 rfl) rfl (Nat.le_of_ble_eq_true rfl) dL_law_1434 ⟨by omega, by omega⟩ ?_
  refine x_icmp_eq C (tgt := 2861) dL_law_1437 (by decide) (fun hc3 => ?_) (fun hc3 => ?_)
  · rw [if_pos hc3] at h
    cases h
    exact hcont _ rfl _ _ (by omega) (by omega)
  · rw [if_neg hc3] at h
    refine x_iconst C (v := 0) dL_law_1440 (by decide) ?_
    cases h
    exact absurd rfl (hne ())
def jL_law21_1507 (σ : Mem) (q2 : Int32 × Mem) (q1 : Int32 × Mem) : Option ((Mem × Mem × Mem) ⊕ Unit) := (some (.inl (σ, q2.2, q1.2)))
def fL_law21 (xs : Nat → Int32) (L : Nat) (i : Int32) (σ : Mem) (μ : Mem) (ω : Mem) : Option ((Mem × Mem × Mem) ⊕ Unit) := (gd (inb (i + (1 : Int32)) L) (gd (inb (i + (2 : Int32)) L) ((fL_longestFree_LOut (xs (i + (1 : Int32)).toNatClampNeg) (xs (i + (2 : Int32)).toNatClampNeg) σ ω).bind fun q1 => ((fX6_longestFree (xs (i + (1 : Int32)).toNatClampNeg) (xs (i + (2 : Int32)).toNatClampNeg) μ).bind fun q2 => ((fX6_thrown q2.2).bind fun q3 => (if q3 = q1.1 then (if ¬ q1.1 = 0 then (jL_law21_1507 σ q2 q1) else (if (lg_cmp (rJ q1.2 20 0 (0 : Int32).toNatClampNeg) q2.1.toInt64) = 0 then (jL_law21_1507 σ q2 q1) else (some (.inr ())))) else (some (.inr ()))))))))
set_option maxHeartbeats 4000000 in
set_option maxRecDepth 100000 in
theorem okL_law21 {p : Program} {l : Launch} {e : Env} {R : Room} {s : State} {m : MethodId} {args : Array Value} {below : List Frame} {meth : Method} {c : Code} {cy : Nat → ClassId} {D : va_G} {B : Nat} {ek : EK} {Q : State → Prop} (C : Cx p s m args c 9 cy D B ek "HostelBedsLaw" cL_law) (hlf : l.stackTraces = false) (h9 : ¬ cy 9 = 0) (hR9 : R = room_1) {b L : Nat} {xs : Nat → Int32} (hX : va_X b L xs s s.heap) (hbl : b < s.heap.size) (hbA : ¬ aB B b) (nc ns : Nat) (hnc : nc + 8 ≤ R.cells) (hns : ns + 48 ≤ R.slots) (i : Int32) (σ μ ω : Mem) (r9 : (Mem × Mem × Mem) ⊕ Unit) (h : fL_law21 xs L i σ μ ω = some r9) (hcont : ∀ q9, r9 = .inl q9 → ∀ nc2 ns2 : Nat, nc2 ≤ nc + 8 → ns2 ≤ ns + 48 → X p l e R s m args below meth c 9 cy D B nc2 ns2 Q 2861 [(0, .ref b), (1, .ref (B + oHB)), (2, .ref (B + oMd)), (3, .ref (B + oLOut)), (4, .ref (B + oLOutD)), (5, .int i)] [] q9.1 q9.2.1 q9.2.2) (hne : ∀ u, r9 ≠ .inr u) : X p l e R s m args below meth c 9 cy D B nc ns Q 1442 [(0, .ref b), (1, .ref (B + oHB)), (2, .ref (B + oMd)), (3, .ref (B + oLOut)), (4, .ref (B + oLOutD)), (5, .int i)] [] σ μ ω := by
  unfold fL_law21 at h
  refine x_aload_n C dL_law_1442 rfl 1 rfl ?_
  refine x_aload_n C dL_law_1443 rfl 0 rfl ?_
  refine x_iload C dL_law_1444 5 rfl ?_
  refine x_iconst C (v := 1) dL_law_1446 (by decide) ?_
  refine x_iadd C dL_law_1447 ?_
  obtain ⟨hg1, h⟩ := gd_some h
  refine x_sld C hX hbl hbA hg1 dL_law_1448 ?_
  refine x_aload_n C dL_law_1449 rfl 0 rfl ?_
  refine x_iload C dL_law_1450 5 rfl ?_
  refine x_iconst C (v := 2) dL_law_1452 (by decide) ?_
  refine x_iadd C dL_law_1453 ?_
  obtain ⟨hg2, h⟩ := gd_some h
  refine x_sld C hX hbl hbA hg2 dL_law_1454 ?_
  refine x_aload_n C dL_law_1455 rfl 3 rfl ?_
  obtain ⟨q1, hk3, h⟩ := Option.bind_eq_some_iff.mp h
  refine x_callSW C (As := [.ref (B + oHB), .int (xs (i + (1 : Int32)).toNatClampNeg), .int (xs (i + (2 : Int32)).toNatClampNeg), .ref (B + oLOut)]) (rest := []) (cells2 := (nc + 2)) (slots2 := (ns + 12)) (lw_g_mk tw_930 rfl) (okL_longestFree_LOut l hlf cy D B ek h9 (xs (i + (1 : Int32)).toNatClampNeg) (xs (i + (2 : Int32)).toNatClampNeg) σ μ ω _ hk3) rfl rfl (by rw [hR9]; decide) (lw_g_mk tw_931 rfl) (lw_g_mk tw_0 rfl) (by decide) rfl (lw_g_mk tw_929 rfl) rfl (Nat.le_of_ble_eq_true rfl) dL_law_1456 ⟨by omega, by omega⟩ rfl rfl ?_
  refine x_istore C [(6, .int q1.1), (0, .ref b), (1, .ref (B + oHB)), (2, .ref (B + oMd)), (3, .ref (B + oLOut)), (4, .ref (B + oLOutD)), (5, .int i)] dL_law_1459 (by decide) rfl ?_
  refine x_aload_n C dL_law_1461 rfl 3 rfl ?_
  refine x_aload_n C dL_law_1462 rfl 1 rfl ?_
  refine x_iload C dL_law_1463 6 rfl ?_
  refine x_iconst C (v := 1) dL_law_1465 (by decide) ?_
  refine x_iadd C dL_law_1466 ?_
  refine x_sld C hX hbl hbA hg1 dL_law_1467 ?_
  refine x_aload_n C dL_law_1468 rfl 1 rfl ?_
  refine x_iload C dL_law_1469 6 rfl ?_
  refine x_iconst C (v := 2) dL_law_1471 (by decide) ?_
  refine x_iadd C dL_law_1472 ?_
  refine x_sld C hX hbl hbA hg2 dL_law_1473 ?_
  obtain ⟨q2, hk4, h⟩ := Option.bind_eq_some_iff.mp h
  refine x_callV C (As := [.int (xs (i + (1 : Int32)).toNatClampNeg), .int (xs (i + (2 : Int32)).toNatClampNeg)]) (rest := []) (lw_g_mk tw_1571 rfl) (lw_g_mk tw_1572 rfl) (c_Md) (C1 := "HostelBedsModel") (T := TX6) (N := 27) (ci := 6) rfl (okX6_longestFree l cy D B ek (xs (i + (1 : Int32)).toNatClampNeg) (xs (i + (2 : Int32)).toNatClampNeg) σ μ q1.2 _ hk4) rfl rfl (by rw [hR9]; decide) (lw_g_mk tw_1573 rfl) (lw_g_mk tw_7 rfl) (by decide) rfl (lw_g_mk tw_1570 rfl) rfl (Nat.le_of_ble_eq_true rfl) dL_law_1474 ⟨by omega, by omega⟩ ?_
  refine x_istore C [(7, .int q2.1), (6, .int q1.1), (0, .ref b), (1, .ref (B + oHB)), (2, .ref (B + oMd)), (3, .ref (B + oLOut)), (4, .ref (B + oLOutD)), (5, .int i)] dL_law_1477 (by decide) rfl ?_
  refine x_aload_n C dL_law_1479 rfl 4 rfl ?_
  obtain ⟨q3, hk5, h⟩ := Option.bind_eq_some_iff.mp h
  refine x_callV C (As := []) (rest := []) (lw_g_mk tw_1215 rfl) (lw_g_mk tw_1216 rfl) (c_Md) (C1 := "HostelBedsModel") (T := TX6) (N := 27) (ci := 6) rfl (okX6_thrown l cy D B ek σ q2.2 q1.2 _ hk5) rfl rfl (by rw [hR9]; decide) (lw_g_mk tw_1217 rfl) (lw_g_mk tw_7 rfl) (by decide) rfl (lw_g_mk tw_1214 rfl) rfl (Nat.le_of_ble_eq_true rfl) dL_law_1480 ⟨by omega, by omega⟩ ?_
  refine x_iload C dL_law_1483 1 rfl ?_
  refine x_icmp_eq C (tgt := 1490) dL_law_1485 (by decide) (fun hc6 => ?_) (fun hc6 => ?_)
  · rw [if_pos hc6] at h
    refine x_iload C dL_law_1490 1 rfl ?_
    have hJ7 : ∀ (r9 : (Mem × Mem × Mem) ⊕ Unit), jL_law21_1507 σ q2 q1 = some r9 → (∀ q9, r9 = .inl q9 → ∀ nc2 ns2 : Nat, nc2 ≤ nc + 8 → ns2 ≤ ns + 48 → X p l e R s m args below meth c 9 cy D B nc2 ns2 Q 2861 [(0, .ref b), (1, .ref (B + oHB)), (2, .ref (B + oMd)), (3, .ref (B + oLOut)), (4, .ref (B + oLOutD)), (5, .int i)] [] q9.1 q9.2.1 q9.2.2) → (∀ u, r9 ≠ .inr u) → X p l e R s m args below meth c 9 cy D B (nc + 2) (ns + 12) Q 1507 [(0, .ref b), (1, .ref (B + oHB)), (2, .ref (B + oMd)), (3, .ref (B + oLOut)), (4, .ref (B + oLOutD)), (5, .int i)] [] σ q2.2 q1.2 := by
      intro r9 h hcont hne
      unfold jL_law21_1507 at h
      refine x_goto C (tgt := 2861) dL_law_1507 (by decide) ?_
      cases h
      exact hcont _ rfl _ _ (by omega) (by omega)
    refine x_if_ne C (tgt := 1507) dL_law_1492 (by decide) (fun hc8 => ?_) (fun hc8 => ?_)
    · rw [if_pos hc8] at h
      refine x_sub [2, 3, 4, 5, 6, 7] rfl ?_
      exact hJ7 _ h hcont hne
    · rw [if_neg hc8] at h
      refine x_aload_n C dL_law_1495 rfl 5 rfl ?_
      refine x_iconst C (v := 0) dL_law_1496 (by decide) ?_
      refine x_lald C _ (c_LOut h9) (by decide : inb (0 : Int32) 1) dL_law_1497 ?_
      refine x_iload C dL_law_1498 0 rfl ?_
      refine x_i2l C dL_law_1500 ?_
      refine x_lcmp C dL_law_1501 ?_
      refine x_if_eq C (tgt := 1507) dL_law_1502 (by decide) (fun hc9 => ?_) (fun hc9 => ?_)
      · rw [if_pos hc9] at h
        refine x_sub [2, 3, 4, 5, 6, 7] rfl ?_
        exact hJ7 _ h hcont hne
      · rw [if_neg hc9] at h
        refine x_iconst C (v := 0) dL_law_1505 (by decide) ?_
        cases h
        exact absurd rfl (hne ())
  · rw [if_neg hc6] at h
    refine x_iconst C (v := 0) dL_law_1488 (by decide) ?_
    cases h
    exact absurd rfl (hne ())
