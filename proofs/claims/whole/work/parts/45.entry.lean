/-! the law's entry (written by wip/gen/nentry.py) -/
def cyOn (cy : Nat → ClassId) : Nat → ClassId := fun k => if k = 9 then 1 else cy k
theorem cellK_on {cy : Nat → ClassId} {B : Nat} {σ μ ω : Mem} (q : Nat × Nat × Nat) : cellK (cyOn cy) B σ μ ω q = cellK cy B σ μ ω q := by
  unfold cellK
  split <;> rfl
theorem nC_on {cy : Nat → ClassId} : nC (cyOn cy) = 396 := by
  unfold nC
  rw [if_neg (by show ¬ (if 9 = 9 then 1 else cy 9) = 0; rw [if_pos rfl]; decide)]
theorem cellsHB_len {cy : Nat → ClassId} {B : Nat} : (cellsHB cy B).length = 380 := by
  rw [cellsHB, List.length_append, headHB_len, hostsL_len]
theorem Cx.on {p : Program} {s : State} {m : MethodId} {args : Array Value} {c : Code} {nL : Nat} {cy : Nat → ClassId} {D : va_G} {B : Nat} {ek : EK} {own : String} {cc : ByteArray} (C : Cx p s m args c nL cy D B ek own cc) : Cx p s m args c nL (cyOn cy) D B ek own cc := C
set_option maxHeartbeats 4000000 in
set_option maxRecDepth 100000 in
theorem okL_entry {p : Program} {l : Launch} {e : Env} {R : Room} {s : State} {m : MethodId} {args : Array Value} {below : List Frame} {meth : Method} {c : Code} {cy : Nat → ClassId} {D : va_G} {B : Nat} {ek : EK} {Q : State → Prop} (C : Cx p s m args c 9 cy D B ek "HostelBedsLaw" cL_law) (hE : NE s) (hB : s.heap.size = B) (h9 : cy 9 = 0) (hR9 : R = room_1) {b : Nat} {μa μ1 : Mem} (h1 : fX6_beginReading memM = some μa) (h2 : fX6_keepReading μa = some μ1) (hloop : X p l e R s m args below meth c 9 (cyOn cy) D B 396 12029 Q 28 [(0, .ref b), (1, .ref (B + oHB)), (2, .ref (B + oMd)), (3, .ref (B + oLOut)), (4, .ref (B + oLOutD)), (5, .int (nI 0))] [] memS μ1 memW) : N p l e R s m args below meth c 9 D B 0 0 Q 0 [(0, .ref b)] [] 0 (fl (fun _ => .inr (0, [])) 0 []) := by
  refine n_new C (C1 := "HostelBeds") (T := TX5) (N1 := 12) (ci := 5) inXg5 tyX5 tyX5_ok (lw_g_mk tw_22 rfl) (lw_g_mk tw_23 rfl) (lw_g_mk tw_1 rfl) rfl (fs := [.null, .int 0, .null, .null, .null, .null, .null, .int 0, .int 0, .null, .null, .int 0]) (fun j hj => by match j, hj with | 0, _ => rfl | 1, _ => rfl | 2, _ => rfl | 3, _ => rfl | 4, _ => rfl | 5, _ => rfl | 6, _ => rfl | 7, _ => rfl | 8, _ => rfl | 9, _ => rfl | 10, _ => rfl | 11, _ => rfl | (q + 12), hq => exact absurd hq (by omega)) (by omega) (by rw [hR9]; exact Nat.le_of_ble_eq_true rfl) (by rw [hR9]; exact Nat.le_of_ble_eq_true rfl) dL_law_0 (fl_push (L2 := [.inr (5, [.null, .int 0, .null, .null, .null, .null, .null, .int 0, .int 0, .null, .null, .int 0])]) rfl rfl) ?_
  refine n_dup C dL_law_3 rfl ?_
  refine n_callI C (o := 0) (F' := fl (fun _ => .inr (0, [])) 0 (cellsHB cy B)) (rest := [.ref (B + 0)]) (lw_g_mk tw_24 rfl) rfl hE (okN_HB l cy D B ek _ (fl0_at rfl)) rfl rfl (by rw [hR9]; exact ⟨Nat.le_of_ble_eq_true rfl, Nat.le_of_ble_eq_true rfl⟩) (lw_g_mk tw_26 rfl) (lw_g_mk tw_1 rfl) (by decide) rfl (lw_g_mk tw_25 rfl) rfl (Nat.le_of_ble_eq_true rfl) (by omega) dL_law_4 (by rw [hR9]; exact ⟨Nat.le_of_ble_eq_true rfl, Nat.le_of_ble_eq_true rfl⟩) (fl_fl 0 rfl (Nat.zero_le _) rfl) ?_
  show N p l e R s m args below meth c 9 D B 380 5516 Q 7 [(0, .ref b)] [.ref (B + 0)] 380 (fl (fun _ => .inr (0, [])) 0 (cellsHB cy B))
  refine n_astore_n C [(1, .ref (B + 0)), (0, .ref b)] dL_law_7 rfl (by decide) rfl ?_
  refine n_new C (C1 := "HostelBedsModel") (T := TX6) (N1 := 27) (ci := 6) inXg6 tyX6 tyX6_ok (lw_g_mk tw_1113 rfl) (lw_g_mk tw_1114 rfl) (lw_g_mk tw_7 rfl) rfl (fs := [.int 0, .null, .int 0, .int 0, .int 0, .null, .null, .null, .null, .null, .int 0, .int 0, .null, .int 0, .int 0, .int 0, .int 0, .int 0, .int 0, .long 0, .int 0, .null, .null, .null, .null, .null, .null]) (fun j hj => by match j, hj with | 0, _ => rfl | 1, _ => rfl | 2, _ => rfl | 3, _ => rfl | 4, _ => rfl | 5, _ => rfl | 6, _ => rfl | 7, _ => rfl | 8, _ => rfl | 9, _ => rfl | 10, _ => rfl | 11, _ => rfl | 12, _ => rfl | 13, _ => rfl | 14, _ => rfl | 15, _ => rfl | 16, _ => rfl | 17, _ => rfl | 18, _ => rfl | 19, _ => rfl | 20, _ => rfl | 21, _ => rfl | 22, _ => rfl | 23, _ => rfl | 24, _ => rfl | 25, _ => rfl | 26, _ => rfl | (q + 27), hq => exact absurd hq (by omega)) (by omega) (by rw [hR9]; exact Nat.le_of_ble_eq_true rfl) (by rw [hR9]; exact Nat.le_of_ble_eq_true rfl) dL_law_8 (fl_push (L2 := cellsHB cy B ++ [.inr (6, [.int 0, .null, .int 0, .int 0, .int 0, .null, .null, .null, .null, .null, .int 0, .int 0, .null, .int 0, .int 0, .int 0, .int 0, .int 0, .int 0, .long 0, .int 0, .null, .null, .null, .null, .null, .null])]) (by rw [cellsHB_len]) rfl) ?_
  refine n_dup C dL_law_11 rfl ?_
  have hF9 : ∀ x, x < 380 → fl (fun _ => .inr (0, [])) 0 (cellsHB cy B ++ [.inr (6, [.int 0, .null, .int 0, .int 0, .int 0, .null, .null, .null, .null, .null, .int 0, .int 0, .null, .int 0, .int 0, .int 0, .int 0, .int 0, .int 0, .long 0, .int 0, .null, .null, .null, .null, .null, .null])]) x = cellK cy B memS memM memW (lay x) := by
    intro x hx
    rw [← hb_cells (F := fun _ => .inr (0, [])) hx]
    unfold fl
    rw [if_neg (Nat.not_lt_zero _), if_neg (Nat.not_lt_zero _), Nat.sub_zero, List.getD_eq_getElem?_getD, List.getD_eq_getElem?_getD, List.getElem?_append_left (by rw [cellsHB_len]; exact hx)]
  refine n_callI C (o := 380) (F' := (fun x => cellK cy B memS μ1 memW (lay x))) (rest := [.ref (B + 380)]) (lw_g_mk tw_1115 rfl) rfl hE (okN_Md l cy D B ek _ memS memW μa μ1 h9 hF9 (fl0_at (get_last cellsHB_len.symm)) h1 h2) rfl rfl (by rw [hR9]; exact ⟨Nat.le_of_ble_eq_true rfl, Nat.le_of_ble_eq_true rfl⟩) (lw_g_mk tw_1117 rfl) (lw_g_mk tw_7 rfl) (by decide) rfl (lw_g_mk tw_1116 rfl) rfl (Nat.le_of_ble_eq_true rfl) (by omega) dL_law_12 (by rw [hR9]; exact ⟨Nat.le_of_ble_eq_true rfl, Nat.le_of_ble_eq_true rfl⟩) (fun _ _ => rfl) ?_
  show N p l e R s m args below meth c 9 D B 394 12027 Q 15 [(1, .ref (B + 0)), (0, .ref b)] [.ref (B + 380)] 394 (fun x => cellK cy B memS μ1 memW (lay x))
  refine n_astore_n C [(2, .ref (B + 380)), (1, .ref (B + 0)), (0, .ref b)] dL_law_15 rfl (by decide) rfl ?_
  refine n_iconst C (v := 1) dL_law_16 (by decide) ?_
  refine n_newa C (atype := .long) (lw_g_mk tw_1213 rfl) (C.2.2.2.2.2.1.2 1 _ rfl).2 (z := 1) (a0 := (1, .inr (.inl (fun _ => 0)))) rfl (by decide) (by decide) (Nat.le_of_ble_eq_true rfl) (by omega) (by rw [hR9]; exact Nat.le_of_ble_eq_true rfl) (by rw [hR9]; exact Nat.le_of_ble_eq_true rfl) dL_law_17 (F' := (fun x => cellK cy B memS μ1 memW (lay x))) (fun x hx => ?_) ?_
  · unfold fu
    by_cases hx2 : x = 394
    · subst hx2
      rw [if_pos rfl, show lay 394 = (34, 0, 0) from la_LOut.2]
      rfl
    · rw [if_neg hx2]
  show N p l e R s m args below meth c 9 D B 395 12028 Q 19 [(2, .ref (B + 380)), (1, .ref (B + 0)), (0, .ref b)] [.ref (B + 394)] 395 (fun x => cellK cy B memS μ1 memW (lay x))
  refine n_astore_n C [(3, .ref (B + 394)), (2, .ref (B + 380)), (1, .ref (B + 0)), (0, .ref b)] dL_law_19 rfl (by decide) rfl ?_
  refine n_iconst C (v := 1) dL_law_20 (by decide) ?_
  refine n_newa C (atype := .double) (lw_g_mk tw_324 rfl) (C.2.2.2.2.2.1.2 4 _ rfl).2 (z := 1) (a0 := (1, .inr (.inr (.inr (.inl (fun _ => 0)))))) rfl (by decide) (by decide) (Nat.le_of_ble_eq_true rfl) (by omega) (by rw [hR9]; exact Nat.le_of_ble_eq_true rfl) (by rw [hR9]; exact Nat.le_of_ble_eq_true rfl) dL_law_21 (F' := (fun x => cellK cy B memS μ1 memW (lay x))) (fun x hx => ?_) ?_
  · unfold fu
    by_cases hx2 : x = 395
    · subst hx2
      rw [if_pos rfl, show lay 395 = (35, 0, 0) from la_LOutD.2]
      rfl
    · rw [if_neg hx2]
  show N p l e R s m args below meth c 9 D B 396 12029 Q 23 [(3, .ref (B + 394)), (2, .ref (B + 380)), (1, .ref (B + 0)), (0, .ref b)] [.ref (B + 395)] 396 (fun x => cellK cy B memS μ1 memW (lay x))
  refine n_astore C [(4, .ref (B + 395)), (3, .ref (B + 394)), (2, .ref (B + 380)), (1, .ref (B + 0)), (0, .ref b)] dL_law_23 (by decide) rfl ?_
  refine n_iconst C (v := 0) dL_law_25 (by decide) ?_
  refine n_istore C [(5, .int 0), (4, .ref (B + 395)), (3, .ref (B + 394)), (2, .ref (B + 380)), (1, .ref (B + 0)), (0, .ref b)] dL_law_26 (by decide) rfl ?_
  refine n_sub [5, 4, 3, 2, 1, 0] rfl ?_
  intro H locs ls hP hS hh
  refine hloop H locs ls ?_ hS hh
  show va_P D vwCl (pw B (nC (cyOn cy)) (fun x => cellK (cyOn cy) B memS μ1 memW (lay x))) H
  rw [nC_on, pw_ext (G := fun x => cellK cy B memS μ1 memW (lay x)) (fun x _ => cellK_on _)]
  exact hP
