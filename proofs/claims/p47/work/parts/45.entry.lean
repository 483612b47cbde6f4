/-! the law's entry (written by wip/p47gen/n47.py) -/
set_option maxHeartbeats 4000000 in
set_option maxRecDepth 100000 in
theorem okL_entry {p : Program} {l : Launch} {e : Env} {R : Room} {s : State} {m : MethodId} {args : Array Value} {below : List Frame} {meth : Method} {c : Code} {cy : Nat → ClassId} {D : va_G} {B : Nat} {ek : EK} {Q : State → Prop} (C : Cx p s m args c 6 cy D B ek "HostelBedsLaw" cL_law) (hE : NE s) (hB : s.heap.size = B) (hR9 : R = room_1) {b : Nat} (hloop : X p l e R s m args below meth c 6 cy D B 380 5516 Q 8 [(1, .ref (B + oHB)), (0, .ref b)] [] memS []) : N p l e R s m args below meth c 6 D B 0 0 Q 0 [(0, .ref b)] [] 0 (fl (fun _ => .inr (0, [])) 0 []) := by
  refine n_new C (C1 := "HostelBeds") (T := TX5) (N1 := 12) (ci := 7) inXg5 tyX5 tyX5_ok (lw_g_mk tw_26 rfl) (lw_g_mk tw_27 rfl) (lw_g_mk tw_1 rfl) rfl (fs := [.null, .int 0, .null, .null, .null, .null, .null, .int 0, .int 0, .null, .null, .int 0]) (fun j hj => by match j, hj with | 0, _ => rfl | 1, _ => rfl | 2, _ => rfl | 3, _ => rfl | 4, _ => rfl | 5, _ => rfl | 6, _ => rfl | 7, _ => rfl | 8, _ => rfl | 9, _ => rfl | 10, _ => rfl | 11, _ => rfl | (q + 12), hq => exact absurd hq (by omega)) (by omega) (by rw [hR9]; exact Nat.le_of_ble_eq_true rfl) (by rw [hR9]; exact Nat.le_of_ble_eq_true rfl) dL_law_0 (fl_push (L2 := [.inr (7, [.null, .int 0, .null, .null, .null, .null, .null, .int 0, .int 0, .null, .null, .int 0])]) rfl rfl) ?_
  refine n_dup C dL_law_3 rfl ?_
  refine n_callI C (o := 0) (F' := fl (fun _ => .inr (0, [])) 0 (cellsHB cy B)) (rest := [.ref (B + 0)]) (lw_g_mk tw_28 rfl) rfl hE (okN_HB l cy D B ek _ (fl0_at rfl)) rfl rfl (by rw [hR9]; exact ⟨Nat.le_of_ble_eq_true rfl, Nat.le_of_ble_eq_true rfl⟩) (lw_g_mk tw_30 rfl) (lw_g_mk tw_1 rfl) (by decide) rfl (lw_g_mk tw_29 rfl) rfl (Nat.le_of_ble_eq_true rfl) (by omega) dL_law_4 (by rw [hR9]; exact ⟨Nat.le_of_ble_eq_true rfl, Nat.le_of_ble_eq_true rfl⟩) (fl_fl 0 rfl (Nat.zero_le _) rfl) ?_
  show N p l e R s m args below meth c 6 D B 380 5516 Q 7 [(0, .ref b)] [.ref (B + 0)] 380 (fl (fun _ => .inr (0, [])) 0 (cellsHB cy B))
  refine n_astore_n C [(1, .ref (B + 0)), (0, .ref b)] dL_law_7 rfl (by decide) rfl ?_
  intro H locs ls hP hS hh
  have ew : pw B 380 (fl (fun _ => .inr (0, [])) 0 (cellsHB cy B)) = wl cy B memS [] := by
    unfold wl wb
    rw [List.append_nil]
    exact pw_ext (G := fun x => cellK cy B memS (lay x)) (fun x hx => hb_cells hx)
  rw [ew] at hP
  refine hloop H locs ls ⟨hP, ?_⟩ hS hh
  unfold wl
  rw [List.append_nil]
  exact wb_D
