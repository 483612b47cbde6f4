/-! the constructor of the class itself (written by wip/gen/nctor2.py) -/
theorem fl0_at {F : Nat → va_E} {k : Nat} {L : List va_E} {e : va_E} (h : L[k]? = some e) : fl F 0 L k = e := by
  have := fl_at (F := F) (o := 0) (i := k) h
  rwa [Nat.zero_add] at this
def hostsL (cy : Nat → ClassId) (B : Nat) : Nat → List va_E
  | 0 => []
  | i + 1 => hostsL cy B i ++ cellsHostel cy B (80 + 30 * i)
theorem cellsHostel_len {cy : Nat → ClassId} {B o : Nat} : (cellsHostel cy B o).length = 30 := rfl
theorem hostsL_len {cy : Nat → ClassId} {B i : Nat} : (hostsL cy B i).length = 30 * i := by
  induction i with
  | zero => rfl
  | succ i ih => show (hostsL cy B i ++ cellsHostel cy B (80 + 30 * i)).length = _; rw [List.length_append, ih, cellsHostel_len]; omega
def headHB (cy : Nat → ClassId) (B : Nat) (f : Nat → Option Nat) : List va_E := [.inr (7, [.ref (B + 1), .int (-1), .ref (B + 3), .ref (B + 33), .ref (B + 63), .ref (B + 70), .ref (B + 77), .int 0, .int 0, .ref (B + 78), .ref (B + 79), .int 0])] ++ cellsInput cy B 1 ++ cellsHostel cy B 3 ++ cellsHostel cy B 33 ++ cellsPlan cy B 63 ++ cellsPlan cy B 70 ++ [.inl (cy 7, 10, .inr (.inr (.inr (.inr f))))] ++ [.inl (cy 4, 193, .inr (.inr (.inr (.inl (fun _ => 0))))), .inl (cy 3, 160, .inl (fun _ => 0))]
theorem headHB_len {cy : Nat → ClassId} {B : Nat} {f : Nat → Option Nat} : (headHB cy B f).length = 80 := rfl
def cellsHB (cy : Nat → ClassId) (B : Nat) : List va_E := headHB cy B (fun k => some (B + oHo2 k)) ++ hostsL cy B 10
theorem pastf {B : Nat} : ∀ k, k < 10 → (fun k => if k < 10 then some (B + (80 + 30 * k)) else none) k = (fun k => some (B + oHo2 k)) k := by
  intro k hk
  simp only [if_pos hk]
  unfold oHo2 oHo hoff
  rw [if_neg (by omega)]
  congr 1
  omega
def upto30 (B i : Nat) : Nat → Option Nat := fun k => if k < i then some (B + (80 + 30 * k)) else none
theorem upto30_0 (B : Nat) : upto30 B 0 = fun _ => none := by funext k; simp [upto30]
theorem upto30_up {B i : Nat} : va_up (upto30 B i) i (some (B + (80 + 30 * i))) = upto30 B (i + 1) := by
  funext k
  show (if k = i then some (B + (80 + 30 * i)) else if k < i then some (B + (80 + 30 * k)) else none) = if k < i + 1 then some (B + (80 + 30 * k)) else none
  by_cases h : k = i
  · subst h; simp
  · rw [if_neg h]
    by_cases h2 : k < i
    · rw [if_pos h2, if_pos (by omega)]
    · rw [if_neg h2, if_neg (by omega)]
set_option maxHeartbeats 4000000 in
set_option maxRecDepth 100000 in
theorem okN_HB (l : Launch) (cy : Nat → ClassId) (D : va_G) (B : Nat) (ek : EK) (F : Nat → va_E) (h0 : F 0 = .inr (7, [.null, .int 0, .null, .null, .null, .null, .null, .int 0, .int 0, .null, .null, .int 0])) : CTN l cy D B ek yX5_init cX5_init 2 ({ frames := 3, cells := 379, slots := 5504, locals := 62 } : Room) 379 5504 [.ref (B + 0)] (1) F (380) (fl F 0 (cellsHB cy B)) := by
  refine met_N (own := "HostelBeds") (by decide) rfl (Nat.le_of_ble_eq_true rfl) ?_
  intro p e s m args below meth c C hE hB hnm hrT hlk
  have hret : ∀ (pc9 : Nat) (lcs9 : List (Nat × Value)), decode cX5_init pc9 = .ok (.return_, 1) → N p l e ({ frames := 3, cells := 379, slots := 5504, locals := 62 } : Room) s m args below meth c 2 D B 379 5504 (MQ below (QN D B (380) (fl F 0 (cellsHB cy B))) args s 379 5504 (aB B)) pc9 lcs9 [] (380) (fl F 0 (cellsHB cy B)) := fun _ _ hd => n_vret C hrT hlk hd
  generalize (MQ below (QN D B (380) (fl F 0 (cellsHB cy B))) args s 379 5504 (aB B)) = Q at hret ⊢
  obtain ⟨R, hR9⟩ : ∃ R : Room, R = ({ frames := 3, cells := 379, slots := 5504, locals := 62 } : Room) := ⟨_, rfl⟩
  rw [← hR9] at hret ⊢
  show N p l e R s m args below meth c 2 D B 0 0 Q 0 [(0, .ref (B + 0))] [] (1) F
  refine n_ext (fl_one (o := 0) h0) ?_
  refine n_aload_n C dX5_init_0 rfl 0 rfl ?_
  refine n_obj C (lw_g_mk tw_31 rfl) (lw_g_mk tw_32 rfl) (lw_g_mk tw_33 rfl) (by rw [hR9]; exact Nat.le_of_ble_eq_true rfl) (by rw [hR9]; exact Nat.le_of_ble_eq_true rfl) dX5_init_1 ?_
  show N p l e R s m args below meth c 2 D B 0 0 Q 4 [(0, .ref (B + 0))] [] 1 (fl F 0 ([.inr (7, [.null, .int 0, .null, .null, .null, .null, .null, .int 0, .int 0, .null, .null, .int 0])]))
  refine n_aload_n C dX5_init_4 rfl 0 rfl ?_
  refine n_new C (C1 := "HostelBeds$Input") (T := TX2) (N1 := 7) (ci := 4) inXg2 tyX2 tyX2_ok (lw_g_mk tw_34 rfl) (lw_g_mk tw_35 rfl) (lw_g_mk tw_2 rfl) rfl (fs := [.null, .int 0, .int 0, .int 0, .int 0, .long 0, .int 0]) (fun j hj => by match j, hj with | 0, _ => rfl | 1, _ => rfl | 2, _ => rfl | 3, _ => rfl | 4, _ => rfl | 5, _ => rfl | 6, _ => rfl | (q + 7), hq => exact absurd hq (by omega)) (by omega) (by rw [hR9]; exact Nat.le_of_ble_eq_true rfl) (by rw [hR9]; exact Nat.le_of_ble_eq_true rfl) dX5_init_5 (fl_push (L2 := ([.inr (7, [.null, .int 0, .null, .null, .null, .null, .null, .int 0, .int 0, .null, .null, .int 0])]) ++ [.inr (4, [.null, .int 0, .int 0, .int 0, .int 0, .long 0, .int 0])]) rfl rfl) ?_
  refine n_dup C dX5_init_8 rfl ?_
  refine n_callN C (host := "HostelBeds") (o := 1) (hE.2.2.2 _ (by simp [nstL])) rfl hE (okN_Input l cy D B ek 1 _ (fl0_at (get_last (by rfl)))) rfl rfl (by rw [hR9]; exact ⟨Nat.le_of_ble_eq_true rfl, Nat.le_of_ble_eq_true rfl⟩) (lw_g_mk tw_38 rfl) (lw_g_mk tw_2 rfl) (by decide) rfl (lw_g_mk tw_37 rfl) rfl (Nat.le_of_ble_eq_true rfl) (by omega) dX5_init_9 (by rw [hR9]; exact ⟨Nat.le_of_ble_eq_true rfl, Nat.le_of_ble_eq_true rfl⟩) (fl_fl (L3 := [.inr (7, [.null, .int 0, .null, .null, .null, .null, .null, .int 0, .int 0, .null, .null, .int 0])] ++ cellsInput cy B 1) 1 rfl (Nat.le_of_ble_eq_true rfl) (take_last (by rfl))) ?_
  show N p l e R s m args below meth c 2 D B 2 707 Q 12 [(0, .ref (B + 0))] [.ref (B + 1), .ref (B + 0)] 3 (fl F 0 ([.inr (7, [.null, .int 0, .null, .null, .null, .null, .null, .int 0, .int 0, .null, .null, .int 0])] ++ cellsInput cy B 1))
  refine n_putF C (C1 := "HostelBeds") (T := TX5) (N1 := 12) (ci := 7) inXg5 tyX5 tyX5_ok nmX5 0 (by omega) (fl0_at rfl) rfl 0 (by decide) (lw_g_mk tw_285 rfl) rfl hnm rfl rfl rfl rfl (Nat.le_of_ble_eq_true rfl) dX5_init_12 (fl_set (i := 0) (L2 := [.inr (7, [.ref (B + 1), .int 0, .null, .null, .null, .null, .null, .int 0, .int 0, .null, .null, .int 0])] ++ cellsInput cy B 1) rfl (Nat.le_of_ble_eq_true rfl) rfl) ?_
  show N p l e R s m args below meth c 2 D B 2 707 Q 15 [(0, .ref (B + 0))] [] 3 (fl F 0 ([.inr (7, [.ref (B + 1), .int 0, .null, .null, .null, .null, .null, .int 0, .int 0, .null, .null, .int 0])] ++ cellsInput cy B 1))
  refine n_aload_n C dX5_init_15 rfl 0 rfl ?_
  refine n_iconst C (v := -1) dX5_init_16 (by decide) ?_
  refine n_put C (C1 := "HostelBeds") (T := TX5) (N1 := 12) (ci := 7) inXg5 tyX5 tyX5_ok nmX5 0 (by omega) (fl0_at rfl) rfl 1 (by decide) (lw_g_mk tw_286 rfl) rfl rfl rfl rfl (Nat.le_of_ble_eq_true rfl) dX5_init_17 (fl_set (i := 0) (L2 := [.inr (7, [.ref (B + 1), .int (-1), .null, .null, .null, .null, .null, .int 0, .int 0, .null, .null, .int 0])] ++ cellsInput cy B 1) rfl (Nat.le_of_ble_eq_true rfl) rfl) ?_
  show N p l e R s m args below meth c 2 D B 2 707 Q 20 [(0, .ref (B + 0))] [] 3 (fl F 0 ([.inr (7, [.ref (B + 1), .int (-1), .null, .null, .null, .null, .null, .int 0, .int 0, .null, .null, .int 0])] ++ cellsInput cy B 1))
  refine n_aload_n C dX5_init_20 rfl 0 rfl ?_
  refine n_new C (C1 := "HostelBeds$Hostel") (T := TX1) (N1 := 12) (ci := 3) inXg1 tyX1 tyX1_ok (lw_g_mk tw_64 rfl) (lw_g_mk tw_65 rfl) (lw_g_mk tw_3 rfl) rfl (fs := [.null, .int 0, .int 0, .null, .int 0, .null, .int 0, .null, .int 0, .int 0, .int 0, .int 0]) (fun j hj => by match j, hj with | 0, _ => rfl | 1, _ => rfl | 2, _ => rfl | 3, _ => rfl | 4, _ => rfl | 5, _ => rfl | 6, _ => rfl | 7, _ => rfl | 8, _ => rfl | 9, _ => rfl | 10, _ => rfl | 11, _ => rfl | (q + 12), hq => exact absurd hq (by omega)) (by omega) (by rw [hR9]; exact Nat.le_of_ble_eq_true rfl) (by rw [hR9]; exact Nat.le_of_ble_eq_true rfl) dX5_init_21 (fl_push (L2 := ([.inr (7, [.ref (B + 1), .int (-1), .null, .null, .null, .null, .null, .int 0, .int 0, .null, .null, .int 0])] ++ cellsInput cy B 1) ++ [.inr (3, [.null, .int 0, .int 0, .null, .int 0, .null, .int 0, .null, .int 0, .int 0, .int 0, .int 0])]) rfl rfl) ?_
  refine n_dup C dX5_init_24 rfl ?_
  refine n_callI C (o := 3) (lw_g_mk tw_66 rfl) rfl hE (okN_Hostel l cy D B ek 3 _ (fl0_at (get_last (by rfl)))) rfl rfl (by rw [hR9]; exact ⟨Nat.le_of_ble_eq_true rfl, Nat.le_of_ble_eq_true rfl⟩) (lw_g_mk tw_68 rfl) (lw_g_mk tw_3 rfl) (by decide) rfl (lw_g_mk tw_67 rfl) rfl (Nat.le_of_ble_eq_true rfl) (by omega) dX5_init_25 (by rw [hR9]; exact ⟨Nat.le_of_ble_eq_true rfl, Nat.le_of_ble_eq_true rfl⟩) (fl_fl (L3 := [.inr (7, [.ref (B + 1), .int (-1), .null, .null, .null, .null, .null, .int 0, .int 0, .null, .null, .int 0])] ++ cellsInput cy B 1 ++ cellsHostel cy B 3) 3 rfl (Nat.le_of_ble_eq_true rfl) (take_last (by rfl))) ?_
  show N p l e R s m args below meth c 2 D B 32 1018 Q 28 [(0, .ref (B + 0))] [.ref (B + 3), .ref (B + 0)] 33 (fl F 0 ([.inr (7, [.ref (B + 1), .int (-1), .null, .null, .null, .null, .null, .int 0, .int 0, .null, .null, .int 0])] ++ cellsInput cy B 1 ++ cellsHostel cy B 3))
  refine n_put C (C1 := "HostelBeds") (T := TX5) (N1 := 12) (ci := 7) inXg5 tyX5 tyX5_ok nmX5 0 (by omega) (fl0_at rfl) rfl 2 (by decide) (lw_g_mk tw_287 rfl) rfl rfl rfl rfl (Nat.le_of_ble_eq_true rfl) dX5_init_28 (fl_set (i := 0) (L2 := [.inr (7, [.ref (B + 1), .int (-1), .ref (B + 3), .null, .null, .null, .null, .int 0, .int 0, .null, .null, .int 0])] ++ cellsInput cy B 1 ++ cellsHostel cy B 3) rfl (Nat.le_of_ble_eq_true rfl) rfl) ?_
  show N p l e R s m args below meth c 2 D B 32 1018 Q 31 [(0, .ref (B + 0))] [] 33 (fl F 0 ([.inr (7, [.ref (B + 1), .int (-1), .ref (B + 3), .null, .null, .null, .null, .int 0, .int 0, .null, .null, .int 0])] ++ cellsInput cy B 1 ++ cellsHostel cy B 3))
  refine n_aload_n C dX5_init_31 rfl 0 rfl ?_
  refine n_new C (C1 := "HostelBeds$Hostel") (T := TX1) (N1 := 12) (ci := 3) inXg1 tyX1 tyX1_ok (lw_g_mk tw_64 rfl) (lw_g_mk tw_65 rfl) (lw_g_mk tw_3 rfl) rfl (fs := [.null, .int 0, .int 0, .null, .int 0, .null, .int 0, .null, .int 0, .int 0, .int 0, .int 0]) (fun j hj => by match j, hj with | 0, _ => rfl | 1, _ => rfl | 2, _ => rfl | 3, _ => rfl | 4, _ => rfl | 5, _ => rfl | 6, _ => rfl | 7, _ => rfl | 8, _ => rfl | 9, _ => rfl | 10, _ => rfl | 11, _ => rfl | (q + 12), hq => exact absurd hq (by omega)) (by omega) (by rw [hR9]; exact Nat.le_of_ble_eq_true rfl) (by rw [hR9]; exact Nat.le_of_ble_eq_true rfl) dX5_init_32 (fl_push (L2 := ([.inr (7, [.ref (B + 1), .int (-1), .ref (B + 3), .null, .null, .null, .null, .int 0, .int 0, .null, .null, .int 0])] ++ cellsInput cy B 1 ++ cellsHostel cy B 3) ++ [.inr (3, [.null, .int 0, .int 0, .null, .int 0, .null, .int 0, .null, .int 0, .int 0, .int 0, .int 0])]) rfl rfl) ?_
  refine n_dup C dX5_init_35 rfl ?_
  refine n_callI C (o := 33) (lw_g_mk tw_66 rfl) rfl hE (okN_Hostel l cy D B ek 33 _ (fl0_at (get_last (by rfl)))) rfl rfl (by rw [hR9]; exact ⟨Nat.le_of_ble_eq_true rfl, Nat.le_of_ble_eq_true rfl⟩) (lw_g_mk tw_68 rfl) (lw_g_mk tw_3 rfl) (by decide) rfl (lw_g_mk tw_67 rfl) rfl (Nat.le_of_ble_eq_true rfl) (by omega) dX5_init_36 (by rw [hR9]; exact ⟨Nat.le_of_ble_eq_true rfl, Nat.le_of_ble_eq_true rfl⟩) (fl_fl (L3 := [.inr (7, [.ref (B + 1), .int (-1), .ref (B + 3), .null, .null, .null, .null, .int 0, .int 0, .null, .null, .int 0])] ++ cellsInput cy B 1 ++ cellsHostel cy B 3 ++ cellsHostel cy B 33) 33 rfl (Nat.le_of_ble_eq_true rfl) (take_last (by rfl))) ?_
  show N p l e R s m args below meth c 2 D B 62 1329 Q 39 [(0, .ref (B + 0))] [.ref (B + 33), .ref (B + 0)] 63 (fl F 0 ([.inr (7, [.ref (B + 1), .int (-1), .ref (B + 3), .null, .null, .null, .null, .int 0, .int 0, .null, .null, .int 0])] ++ cellsInput cy B 1 ++ cellsHostel cy B 3 ++ cellsHostel cy B 33))
  refine n_put C (C1 := "HostelBeds") (T := TX5) (N1 := 12) (ci := 7) inXg5 tyX5 tyX5_ok nmX5 0 (by omega) (fl0_at rfl) rfl 3 (by decide) (lw_g_mk tw_288 rfl) rfl rfl rfl rfl (Nat.le_of_ble_eq_true rfl) dX5_init_39 (fl_set (i := 0) (L2 := [.inr (7, [.ref (B + 1), .int (-1), .ref (B + 3), .ref (B + 33), .null, .null, .null, .int 0, .int 0, .null, .null, .int 0])] ++ cellsInput cy B 1 ++ cellsHostel cy B 3 ++ cellsHostel cy B 33) rfl (Nat.le_of_ble_eq_true rfl) rfl) ?_
  show N p l e R s m args below meth c 2 D B 62 1329 Q 42 [(0, .ref (B + 0))] [] 63 (fl F 0 ([.inr (7, [.ref (B + 1), .int (-1), .ref (B + 3), .ref (B + 33), .null, .null, .null, .int 0, .int 0, .null, .null, .int 0])] ++ cellsInput cy B 1 ++ cellsHostel cy B 3 ++ cellsHostel cy B 33))
  refine n_aload_n C dX5_init_42 rfl 0 rfl ?_
  refine n_new C (C1 := "HostelBeds$Plan") (T := TX3) (N1 := 8) (ci := 5) inXg3 tyX3 tyX3_ok (lw_g_mk tw_247 rfl) (lw_g_mk tw_248 rfl) (lw_g_mk tw_6 rfl) rfl (fs := [.null, .null, .null, .null, .null, .int 0, .int 0, .null]) (fun j hj => by match j, hj with | 0, _ => rfl | 1, _ => rfl | 2, _ => rfl | 3, _ => rfl | 4, _ => rfl | 5, _ => rfl | 6, _ => rfl | 7, _ => rfl | (q + 8), hq => exact absurd hq (by omega)) (by omega) (by rw [hR9]; exact Nat.le_of_ble_eq_true rfl) (by rw [hR9]; exact Nat.le_of_ble_eq_true rfl) dX5_init_43 (fl_push (L2 := ([.inr (7, [.ref (B + 1), .int (-1), .ref (B + 3), .ref (B + 33), .null, .null, .null, .int 0, .int 0, .null, .null, .int 0])] ++ cellsInput cy B 1 ++ cellsHostel cy B 3 ++ cellsHostel cy B 33) ++ [.inr (5, [.null, .null, .null, .null, .null, .int 0, .int 0, .null])]) rfl rfl) ?_
  refine n_dup C dX5_init_46 rfl ?_
  refine n_callN C (host := "HostelBeds") (o := 63) (hE.2.2.2 _ (by simp [nstL])) rfl hE (okN_Plan l cy D B ek 63 _ (fl0_at (get_last (by rfl)))) rfl rfl (by rw [hR9]; exact ⟨Nat.le_of_ble_eq_true rfl, Nat.le_of_ble_eq_true rfl⟩) (lw_g_mk tw_251 rfl) (lw_g_mk tw_6 rfl) (by decide) rfl (lw_g_mk tw_250 rfl) rfl (Nat.le_of_ble_eq_true rfl) (by omega) dX5_init_47 (by rw [hR9]; exact ⟨Nat.le_of_ble_eq_true rfl, Nat.le_of_ble_eq_true rfl⟩) (fl_fl (L3 := [.inr (7, [.ref (B + 1), .int (-1), .ref (B + 3), .ref (B + 33), .null, .null, .null, .int 0, .int 0, .null, .null, .int 0])] ++ cellsInput cy B 1 ++ cellsHostel cy B 3 ++ cellsHostel cy B 33 ++ cellsPlan cy B 63) 63 rfl (Nat.le_of_ble_eq_true rfl) (take_last (by rfl))) ?_
  show N p l e R s m args below meth c 2 D B 69 1680 Q 50 [(0, .ref (B + 0))] [.ref (B + 63), .ref (B + 0)] 70 (fl F 0 ([.inr (7, [.ref (B + 1), .int (-1), .ref (B + 3), .ref (B + 33), .null, .null, .null, .int 0, .int 0, .null, .null, .int 0])] ++ cellsInput cy B 1 ++ cellsHostel cy B 3 ++ cellsHostel cy B 33 ++ cellsPlan cy B 63))
  refine n_putF C (C1 := "HostelBeds") (T := TX5) (N1 := 12) (ci := 7) inXg5 tyX5 tyX5_ok nmX5 0 (by omega) (fl0_at rfl) rfl 4 (by decide) (lw_g_mk tw_289 rfl) rfl hnm rfl rfl rfl rfl (Nat.le_of_ble_eq_true rfl) dX5_init_50 (fl_set (i := 0) (L2 := [.inr (7, [.ref (B + 1), .int (-1), .ref (B + 3), .ref (B + 33), .ref (B + 63), .null, .null, .int 0, .int 0, .null, .null, .int 0])] ++ cellsInput cy B 1 ++ cellsHostel cy B 3 ++ cellsHostel cy B 33 ++ cellsPlan cy B 63) rfl (Nat.le_of_ble_eq_true rfl) rfl) ?_
  show N p l e R s m args below meth c 2 D B 69 1680 Q 53 [(0, .ref (B + 0))] [] 70 (fl F 0 ([.inr (7, [.ref (B + 1), .int (-1), .ref (B + 3), .ref (B + 33), .ref (B + 63), .null, .null, .int 0, .int 0, .null, .null, .int 0])] ++ cellsInput cy B 1 ++ cellsHostel cy B 3 ++ cellsHostel cy B 33 ++ cellsPlan cy B 63))
  refine n_aload_n C dX5_init_53 rfl 0 rfl ?_
  refine n_new C (C1 := "HostelBeds$Plan") (T := TX3) (N1 := 8) (ci := 5) inXg3 tyX3 tyX3_ok (lw_g_mk tw_247 rfl) (lw_g_mk tw_248 rfl) (lw_g_mk tw_6 rfl) rfl (fs := [.null, .null, .null, .null, .null, .int 0, .int 0, .null]) (fun j hj => by match j, hj with | 0, _ => rfl | 1, _ => rfl | 2, _ => rfl | 3, _ => rfl | 4, _ => rfl | 5, _ => rfl | 6, _ => rfl | 7, _ => rfl | (q + 8), hq => exact absurd hq (by omega)) (by omega) (by rw [hR9]; exact Nat.le_of_ble_eq_true rfl) (by rw [hR9]; exact Nat.le_of_ble_eq_true rfl) dX5_init_54 (fl_push (L2 := ([.inr (7, [.ref (B + 1), .int (-1), .ref (B + 3), .ref (B + 33), .ref (B + 63), .null, .null, .int 0, .int 0, .null, .null, .int 0])] ++ cellsInput cy B 1 ++ cellsHostel cy B 3 ++ cellsHostel cy B 33 ++ cellsPlan cy B 63) ++ [.inr (5, [.null, .null, .null, .null, .null, .int 0, .int 0, .null])]) rfl rfl) ?_
  refine n_dup C dX5_init_57 rfl ?_
  refine n_callN C (host := "HostelBeds") (o := 70) (hE.2.2.2 _ (by simp [nstL])) rfl hE (okN_Plan l cy D B ek 70 _ (fl0_at (get_last (by rfl)))) rfl rfl (by rw [hR9]; exact ⟨Nat.le_of_ble_eq_true rfl, Nat.le_of_ble_eq_true rfl⟩) (lw_g_mk tw_251 rfl) (lw_g_mk tw_6 rfl) (by decide) rfl (lw_g_mk tw_250 rfl) rfl (Nat.le_of_ble_eq_true rfl) (by omega) dX5_init_58 (by rw [hR9]; exact ⟨Nat.le_of_ble_eq_true rfl, Nat.le_of_ble_eq_true rfl⟩) (fl_fl (L3 := [.inr (7, [.ref (B + 1), .int (-1), .ref (B + 3), .ref (B + 33), .ref (B + 63), .null, .null, .int 0, .int 0, .null, .null, .int 0])] ++ cellsInput cy B 1 ++ cellsHostel cy B 3 ++ cellsHostel cy B 33 ++ cellsPlan cy B 63 ++ cellsPlan cy B 70) 70 rfl (Nat.le_of_ble_eq_true rfl) (take_last (by rfl))) ?_
  show N p l e R s m args below meth c 2 D B 76 2031 Q 61 [(0, .ref (B + 0))] [.ref (B + 70), .ref (B + 0)] 77 (fl F 0 ([.inr (7, [.ref (B + 1), .int (-1), .ref (B + 3), .ref (B + 33), .ref (B + 63), .null, .null, .int 0, .int 0, .null, .null, .int 0])] ++ cellsInput cy B 1 ++ cellsHostel cy B 3 ++ cellsHostel cy B 33 ++ cellsPlan cy B 63 ++ cellsPlan cy B 70))
  refine n_putF C (C1 := "HostelBeds") (T := TX5) (N1 := 12) (ci := 7) inXg5 tyX5 tyX5_ok nmX5 0 (by omega) (fl0_at rfl) rfl 5 (by decide) (lw_g_mk tw_290 rfl) rfl hnm rfl rfl rfl rfl (Nat.le_of_ble_eq_true rfl) dX5_init_61 (fl_set (i := 0) (L2 := [.inr (7, [.ref (B + 1), .int (-1), .ref (B + 3), .ref (B + 33), .ref (B + 63), .ref (B + 70), .null, .int 0, .int 0, .null, .null, .int 0])] ++ cellsInput cy B 1 ++ cellsHostel cy B 3 ++ cellsHostel cy B 33 ++ cellsPlan cy B 63 ++ cellsPlan cy B 70) rfl (Nat.le_of_ble_eq_true rfl) rfl) ?_
  show N p l e R s m args below meth c 2 D B 76 2031 Q 64 [(0, .ref (B + 0))] [] 77 (fl F 0 ([.inr (7, [.ref (B + 1), .int (-1), .ref (B + 3), .ref (B + 33), .ref (B + 63), .ref (B + 70), .null, .int 0, .int 0, .null, .null, .int 0])] ++ cellsInput cy B 1 ++ cellsHostel cy B 3 ++ cellsHostel cy B 33 ++ cellsPlan cy B 63 ++ cellsPlan cy B 70))
  refine n_aload_n C dX5_init_64 rfl 0 rfl ?_
  refine n_bipush C (v := 10) dX5_init_65 (by decide) ?_
  refine n_newq C (C1 := "HostelBeds$Hostel") (lw_g_mk tw_64 rfl) hE.2.2.1 (ra_obj (C.2.2.2.2.2.1.2 7 _ rfl).2) (z := 10) (by decide) (by decide) (Nat.le_of_ble_eq_true rfl) (by omega) (by rw [hR9]; exact Nat.le_of_ble_eq_true rfl) (by rw [hR9]; exact Nat.le_of_ble_eq_true rfl) dX5_init_67 (fl_push (L2 := [.inr (7, [.ref (B + 1), .int (-1), .ref (B + 3), .ref (B + 33), .ref (B + 63), .ref (B + 70), .null, .int 0, .int 0, .null, .null, .int 0])] ++ cellsInput cy B 1 ++ cellsHostel cy B 3 ++ cellsHostel cy B 33 ++ cellsPlan cy B 63 ++ cellsPlan cy B 70 ++ [.inl (cy 7, 10, .inr (.inr (.inr (.inr (fun _ => none)))))]) rfl rfl) ?_
  refine n_putF C (C1 := "HostelBeds") (T := TX5) (N1 := 12) (ci := 7) inXg5 tyX5 tyX5_ok nmX5 0 (by omega) (fl0_at rfl) rfl 6 (by decide) (lw_g_mk tw_291 rfl) rfl hnm rfl rfl rfl rfl (Nat.le_of_ble_eq_true rfl) dX5_init_70 (fl_set (i := 0) (L2 := [.inr (7, [.ref (B + 1), .int (-1), .ref (B + 3), .ref (B + 33), .ref (B + 63), .ref (B + 70), .ref (B + 77), .int 0, .int 0, .null, .null, .int 0])] ++ cellsInput cy B 1 ++ cellsHostel cy B 3 ++ cellsHostel cy B 33 ++ cellsPlan cy B 63 ++ cellsPlan cy B 70 ++ [.inl (cy 7, 10, .inr (.inr (.inr (.inr (fun _ => none)))))]) rfl (Nat.le_of_ble_eq_true rfl) rfl) ?_
  show N p l e R s m args below meth c 2 D B 77 2041 Q 73 [(0, .ref (B + 0))] [] 78 (fl F 0 ([.inr (7, [.ref (B + 1), .int (-1), .ref (B + 3), .ref (B + 33), .ref (B + 63), .ref (B + 70), .ref (B + 77), .int 0, .int 0, .null, .null, .int 0])] ++ cellsInput cy B 1 ++ cellsHostel cy B 3 ++ cellsHostel cy B 33 ++ cellsPlan cy B 63 ++ cellsPlan cy B 70 ++ [.inl (cy 7, 10, .inr (.inr (.inr (.inr (fun _ => none)))))]))
  refine n_aload_n C dX5_init_73 rfl 0 rfl ?_
  refine n_sipush C (v := 193) dX5_init_74 (by decide) ?_
  refine n_newa C (atype := .double) (lw_g_mk tw_320 rfl) (C.2.2.2.2.2.1.2 4 _ rfl).2 (z := 193) (a0 := (193, .inr (.inr (.inr (.inl (fun _ => 0)))))) rfl (by decide) (by decide) (Nat.le_of_ble_eq_true rfl) (by omega) (by rw [hR9]; exact Nat.le_of_ble_eq_true rfl) (by rw [hR9]; exact Nat.le_of_ble_eq_true rfl) dX5_init_77 (fl_push (L2 := [.inr (7, [.ref (B + 1), .int (-1), .ref (B + 3), .ref (B + 33), .ref (B + 63), .ref (B + 70), .ref (B + 77), .int 0, .int 0, .null, .null, .int 0])] ++ cellsInput cy B 1 ++ cellsHostel cy B 3 ++ cellsHostel cy B 33 ++ cellsPlan cy B 63 ++ cellsPlan cy B 70 ++ [.inl (cy 7, 10, .inr (.inr (.inr (.inr (fun _ => none)))))] ++ [.inl (cy 4, 193, .inr (.inr (.inr (.inl (fun _ => 0)))))]) rfl rfl) ?_
  refine n_putF C (C1 := "HostelBeds") (T := TX5) (N1 := 12) (ci := 7) inXg5 tyX5 tyX5_ok nmX5 0 (by omega) (fl0_at rfl) rfl 9 (by decide) (lw_g_mk tw_293 rfl) rfl hnm rfl rfl rfl rfl (Nat.le_of_ble_eq_true rfl) dX5_init_79 (fl_set (i := 0) (L2 := [.inr (7, [.ref (B + 1), .int (-1), .ref (B + 3), .ref (B + 33), .ref (B + 63), .ref (B + 70), .ref (B + 77), .int 0, .int 0, .ref (B + 78), .null, .int 0])] ++ cellsInput cy B 1 ++ cellsHostel cy B 3 ++ cellsHostel cy B 33 ++ cellsPlan cy B 63 ++ cellsPlan cy B 70 ++ [.inl (cy 7, 10, .inr (.inr (.inr (.inr (fun _ => none)))))] ++ [.inl (cy 4, 193, .inr (.inr (.inr (.inl (fun _ => 0)))))]) rfl (Nat.le_of_ble_eq_true rfl) rfl) ?_
  show N p l e R s m args below meth c 2 D B 78 2234 Q 82 [(0, .ref (B + 0))] [] 79 (fl F 0 ([.inr (7, [.ref (B + 1), .int (-1), .ref (B + 3), .ref (B + 33), .ref (B + 63), .ref (B + 70), .ref (B + 77), .int 0, .int 0, .ref (B + 78), .null, .int 0])] ++ cellsInput cy B 1 ++ cellsHostel cy B 3 ++ cellsHostel cy B 33 ++ cellsPlan cy B 63 ++ cellsPlan cy B 70 ++ [.inl (cy 7, 10, .inr (.inr (.inr (.inr (fun _ => none)))))] ++ [.inl (cy 4, 193, .inr (.inr (.inr (.inl (fun _ => 0)))))]))
  refine n_aload_n C dX5_init_82 rfl 0 rfl ?_
  refine n_sipush C (v := 160) dX5_init_83 (by decide) ?_
  refine n_newa C (atype := .char) (lw_g_mk tw_321 rfl) (C.2.2.2.2.2.1.2 3 _ rfl).2 (z := 160) (a0 := (160, .inl (fun _ => 0))) rfl (by decide) (by decide) (Nat.le_of_ble_eq_true rfl) (by omega) (by rw [hR9]; exact Nat.le_of_ble_eq_true rfl) (by rw [hR9]; exact Nat.le_of_ble_eq_true rfl) dX5_init_86 (fl_push (L2 := [.inr (7, [.ref (B + 1), .int (-1), .ref (B + 3), .ref (B + 33), .ref (B + 63), .ref (B + 70), .ref (B + 77), .int 0, .int 0, .ref (B + 78), .null, .int 0])] ++ cellsInput cy B 1 ++ cellsHostel cy B 3 ++ cellsHostel cy B 33 ++ cellsPlan cy B 63 ++ cellsPlan cy B 70 ++ [.inl (cy 7, 10, .inr (.inr (.inr (.inr (fun _ => none)))))] ++ [.inl (cy 4, 193, .inr (.inr (.inr (.inl (fun _ => 0)))))] ++ [.inl (cy 3, 160, .inl (fun _ => 0))]) rfl rfl) ?_
  refine n_putF C (C1 := "HostelBeds") (T := TX5) (N1 := 12) (ci := 7) inXg5 tyX5 tyX5_ok nmX5 0 (by omega) (fl0_at rfl) rfl 10 (by decide) (lw_g_mk tw_294 rfl) rfl hnm rfl rfl rfl rfl (Nat.le_of_ble_eq_true rfl) dX5_init_88 (fl_set (i := 0) (L2 := [.inr (7, [.ref (B + 1), .int (-1), .ref (B + 3), .ref (B + 33), .ref (B + 63), .ref (B + 70), .ref (B + 77), .int 0, .int 0, .ref (B + 78), .ref (B + 79), .int 0])] ++ cellsInput cy B 1 ++ cellsHostel cy B 3 ++ cellsHostel cy B 33 ++ cellsPlan cy B 63 ++ cellsPlan cy B 70 ++ [.inl (cy 7, 10, .inr (.inr (.inr (.inr (fun _ => none)))))] ++ [.inl (cy 4, 193, .inr (.inr (.inr (.inl (fun _ => 0)))))] ++ [.inl (cy 3, 160, .inl (fun _ => 0))]) rfl (Nat.le_of_ble_eq_true rfl) rfl) ?_
  show N p l e R s m args below meth c 2 D B 79 2394 Q 91 [(0, .ref (B + 0))] [] 80 (fl F 0 ([.inr (7, [.ref (B + 1), .int (-1), .ref (B + 3), .ref (B + 33), .ref (B + 63), .ref (B + 70), .ref (B + 77), .int 0, .int 0, .ref (B + 78), .ref (B + 79), .int 0])] ++ cellsInput cy B 1 ++ cellsHostel cy B 3 ++ cellsHostel cy B 33 ++ cellsPlan cy B 63 ++ cellsPlan cy B 70 ++ [.inl (cy 7, 10, .inr (.inr (.inr (.inr (fun _ => none)))))] ++ [.inl (cy 4, 193, .inr (.inr (.inr (.inl (fun _ => 0)))))] ++ [.inl (cy 3, 160, .inl (fun _ => 0))]))
  refine n_iconst C (v := 0) dX5_init_91 (by decide) ?_
  refine n_istore_n C [(1, .int 0), (0, .ref (B + 0))] dX5_init_92 rfl (by decide) rfl ?_
  have hloop : ∀ (k i : Nat), i + k = 10 → N p l e R s m args below meth c 2 D B (79 + 30 * i) (2394 + 311 * i) Q 93 [(0, .ref (B + 0)), (1, .int (nI i))] [] (80 + 30 * i) (fl F 0 (headHB cy B (upto30 B i) ++ hostsL cy B i)) := by
    intro k
    induction k with
    | zero =>
      intro i hi
      refine n_iload_n C dX5_init_93 rfl 1 rfl ?_
      refine n_aload_n C dX5_init_94 rfl 0 rfl ?_
      refine n_get C (C1 := "HostelBeds") (T := TX5) (N1 := 12) (ci := 7) inXg5 0 (by omega) (fl0_at rfl) rfl 6 (by decide) (lw_g_mk tw_291 rfl) rfl dX5_init_95 ?_
      refine n_alen C 77 7 (by omega) (fl0_at rfl) rfl (v := 10) rfl dX5_init_98 ?_
      refine n_icmp_ge C (tgt := 121) dX5_init_99 (by decide) (fun hc => ?_) (fun hc => ?_)
      · obtain rfl : i = 10 := by omega
        refine n_exq (F' := fl F 0 (cellsHB cy B)) (fl_exq 77 rfl rfl (fun a H h => at_refs pastf h)) ?_
        exact hret _ _ dX5_init_121
      · exact absurd (nI_go (b := 10) (by decide) rfl (by omega) hc) (by omega)
    | succ k ih =>
      intro i hi
      refine n_iload_n C dX5_init_93 rfl 1 rfl ?_
      refine n_aload_n C dX5_init_94 rfl 0 rfl ?_
      refine n_get C (C1 := "HostelBeds") (T := TX5) (N1 := 12) (ci := 7) inXg5 0 (by omega) (fl0_at rfl) rfl 6 (by decide) (lw_g_mk tw_291 rfl) rfl dX5_init_95 ?_
      refine n_alen C 77 7 (by omega) (fl0_at rfl) rfl (v := 10) rfl dX5_init_98 ?_
      refine n_icmp_ge C (tgt := 121) dX5_init_99 (by decide) (fun hc => ?_) (fun hc => ?_)
      · exact absurd (nI_end10 i (by omega) hc) (by omega)
      · refine n_aload_n C dX5_init_102 rfl 0 rfl ?_
        refine n_get C (C1 := "HostelBeds") (T := TX5) (N1 := 12) (ci := 7) inXg5 0 (by omega) (fl0_at rfl) rfl 6 (by decide) (lw_g_mk tw_291 rfl) rfl dX5_init_103 ?_
        refine n_iload_n C dX5_init_106 rfl 1 rfl ?_
        have hlen : 80 + 30 * i = (headHB cy B (upto30 B i) ++ hostsL cy B i).length := by rw [List.length_append, headHB_len, hostsL_len]
        refine n_new C (C1 := "HostelBeds$Hostel") (T := TX1) (N1 := 12) (ci := 3) inXg1 tyX1 tyX1_ok (lw_g_mk tw_64 rfl) (lw_g_mk tw_65 rfl) (lw_g_mk tw_3 rfl) rfl (fs := [.null, .int 0, .int 0, .null, .int 0, .null, .int 0, .null, .int 0, .int 0, .int 0, .int 0]) (fun j hj => by match j, hj with | 0, _ => rfl | 1, _ => rfl | 2, _ => rfl | 3, _ => rfl | 4, _ => rfl | 5, _ => rfl | 6, _ => rfl | 7, _ => rfl | 8, _ => rfl | 9, _ => rfl | 10, _ => rfl | 11, _ => rfl | (q + 12), hq => exact absurd hq (by omega)) (by omega) (by rw [hR9]; show _ ≤ 379; omega) (by rw [hR9]; show _ ≤ 5504; omega) dX5_init_107 (fl_push (L2 := (headHB cy B (upto30 B i) ++ hostsL cy B i) ++ [.inr (3, [.null, .int 0, .int 0, .null, .int 0, .null, .int 0, .null, .int 0, .int 0, .int 0, .int 0])]) (by rw [← hlen]; omega) rfl) ?_
        refine n_dup C dX5_init_110 rfl ?_
        refine n_callI C (o := 80 + 30 * i) (F' := fl F 0 ((headHB cy B (upto30 B i) ++ hostsL cy B i) ++ cellsHostel cy B (80 + 30 * i))) (lw_g_mk tw_66 rfl) rfl hE (okN_Hostel l cy D B ek (80 + 30 * i) _ (fl0_at (get_last hlen))) rfl rfl (by rw [hR9]; exact ⟨Nat.le_of_ble_eq_true rfl, Nat.le_of_ble_eq_true rfl⟩) (lw_g_mk tw_68 rfl) (lw_g_mk tw_3 rfl) (by decide) rfl (lw_g_mk tw_67 rfl) rfl (Nat.le_of_ble_eq_true rfl) (by omega) dX5_init_111 (by rw [hR9]; exact ⟨by show _ ≤ 379; omega, by show _ ≤ 5504; omega⟩) (fl_fl (80 + 30 * i) (by omega) (by rw [List.length_append, ← hlen]; simp) (take_last hlen)) ?_
        rw [List.append_assoc]
        refine n_astq C 77 7 (80 + 30 * i) 3 (by omega) (by omega) (fl0_at rfl) rfl (r := (RX1, TX1, 12)) (vs := _) (fl0_at (e := objH B (80 + 30 * i) 0 60 7 10) ?_) rfl (nI_in (by omega) (by decide)) dX5_init_114 (F' := fl F 0 (headHB cy B (upto30 B (i + 1)) ++ hostsL cy B (i + 1))) ?_ ?_
        · rw [← List.append_assoc, List.getElem?_append_right (by rw [← hlen]; omega), ← hlen, Nat.sub_self]
          rfl
        · rw [nI_clamp (by omega), upto30_up]
          exact fl_set (i := 77) rfl (by rw [List.length_append, headHB_len]; omega) rfl
        · refine n_iinc C (k := 1) [(1, .int (nI (i + 1))), (0, .ref (B + 0))] dX5_init_115 rfl (by rw [nI_succ]; rfl) (by decide) rfl ?_
          refine n_goto C (tgt := 93) dX5_init_118 (by decide) ?_
          refine n_sub [1, 0] rfl ?_
          refine n_widen (k := 79 + 30 * (i + 1)) (z := 2394 + 311 * (i + 1)) (by omega) (by omega) ?_
          rw [show 80 + 30 * i + 30 = 80 + 30 * (i + 1) by omega]
          exact ih (i + 1) (by omega)
  refine n_sub [1, 0] rfl ?_
  have h9 := hloop 10 0 rfl
  rw [upto30_0] at h9
  exact h9
