/-! the constructors (written by wip/gen/nctor.py) -/
theorem ra_obj {s : State} {cA : ClassId} {C : String} (h : va_RA s cA (.object C)) : s.vm.findClass ("[" ++ (FieldType.object C).toString) = some cA := by
  obtain ⟨_, _, _, _, _, h4⟩ := h
  exact h4
theorem arr_congr {cA : ClassId} {n : Nat} {f g : Nat → Value} (h : ∀ k, k < n → f k = g k) : arrV cA n f = arrV cA n g := by
  unfold arrV
  congr 1
  exact congrArg Array.ofFn (funext fun j => h j.1 j.2)
theorem at_refs {D : va_G} {a : Nat} {H : Heap} {cA : ClassId} {n : Nat} {f g : Nat → Option Nat} (h : ∀ k, k < n → f k = g k) (hP : va_at D vwCl (a, .inl (cA, n, .inr (.inr (.inr (.inr f))))) H) : va_at D vwCl (a, .inl (cA, n, .inr (.inr (.inr (.inr g))))) H := by
  have h1 : H[a]? = some (vp_cell cA (n, .inr (.inr (.inr (.inr f))))) := hP
  show H[a]? = some (vp_cell cA (n, .inr (.inr (.inr (.inr g)))))
  rw [h1, vp_cell_q, vp_cell_q, arr_congr (fun k hk => by rw [h k hk])]
theorem fl_exq {D : va_G} {F : Nat → va_E} {o n : Nat} (i : Nat) {e e' : va_E} {L L2 : List va_E} (hi : L[i]? = some e) (hL : L.set i e' = L2) (h : ∀ a H, va_at D vwCl (a, e) H → va_at D vwCl (a, e') H) : ∀ x, x < n → ∀ a H, va_at D vwCl (a, fl F o L x) H → va_at D vwCl (a, fl F o L2 x) H := by
  intro x _ a H hP
  subst hL
  unfold fl at hP ⊢
  by_cases h1 : x < o
  · rw [if_pos h1] at hP ⊢; exact hP
  · rw [if_neg h1] at hP ⊢
    simp only [List.getD_eq_getElem?_getD] at hP ⊢
    by_cases h2 : x - o = i
    · rw [h2, hi] at hP
      rw [h2, List.getElem?_set_self (List.getElem?_eq_some_iff.mp hi).1]
      exact h _ _ hP
    · rw [List.getElem?_set_ne (fun q => h2 q.symm)]
      exact hP
/-- a row of references filled up to i -/
def upto (a i : Nat) : Nat → Option Nat := fun k => if k < i then some (a + k) else none
theorem upto_0 (a : Nat) : upto a 0 = fun _ => none := by funext k; simp [upto]
theorem upto_up {a i z : Nat} (hz : z = a + i) : va_up (upto a i) i (some z) = upto a (i + 1) := by
  subst hz
  funext k
  show (if k = i then some (a + i) else if k < i then some (a + k) else none) = if k < i + 1 then some (a + k) else none
  by_cases h : k = i
  · subst h; simp
  · rw [if_neg h]
    by_cases h2 : k < i
    · rw [if_pos h2, if_pos (by omega)]
    · rw [if_neg h2, if_neg (by omega)]
theorem upto_lt {a i k : Nat} (h : k < i) : upto a i k = some (a + k) := by simp [upto, h]
theorem upto_ap (B a i : Nat) (k : Nat) (h : k < i) : upto (B + a) i k = (fun k => some (B + (a + k))) k := by rw [upto_lt h, Nat.add_assoc]
theorem take_last {M L2 : List va_E} {z : va_E} {k : Nat} (hk : k = M.length) : (M ++ [z]).take k ++ L2 = M ++ L2 := by subst hk; simp
theorem get_last {M : List va_E} {z : va_E} {k : Nat} (hk : k = M.length) : (M ++ [z])[k]? = some z := by subst hk; simp
theorem up_zero (k : Nat) : upd (fun _ => (0 : Int32)) k 0 = fun _ => 0 := by funext z; simp [upd]
theorem nI_end8 : ∀ i, i ≤ 8 → (8 : Int32) ≤ nI i → i = 8 := by decide +kernel
theorem nI_end10 : ∀ i, i ≤ 10 → (10 : Int32) ≤ nI i → i = 10 := by decide +kernel
theorem nI_end17 : ∀ i, i ≤ 17 → (17 : Int32) ≤ nI i → i = 17 := by decide +kernel
theorem nI_end30 : ∀ i, i ≤ 30 → (30 : Int32) ≤ nI i → i = 30 := by decide +kernel
theorem nI_go {b i : Nat} {v : Int32} (hb : b < 1000) (hv : v = nI b) (hi : i ≤ b) (h : ¬ v ≤ nI i) : i < b := by
  rcases Nat.lt_or_ge i b with q | q
  · exact q
  · have : i = b := by omega
    subst this
    exact absurd (by rw [hv]; exact Int32.le_refl _) h
set_option maxHeartbeats 4000000 in
set_option maxRecDepth 100000 in
theorem okN_Room (l : Launch) (cy : Nat → ClassId) (D : va_G) (B : Nat) (ek : EK) (o : Nat) (F : Nat → va_E)  : CTN l cy D B ek yX4_init cX4_init 1 ({ frames := 1, cells := 0, slots := 0, locals := 12 } : Room) 0 0 [.ref (B + o)] (o + 1) F (o + 1) F := by
  refine met_N (own := "HostelBeds$Room") (by decide) rfl (Nat.le_of_ble_eq_true rfl) ?_
  intro p e s m args below meth c C hE hB hnm hrT hlk
  have hret : ∀ (pc9 : Nat) (lcs9 : List (Nat × Value)), decode cX4_init pc9 = .ok (.return_, 1) → N p l e ({ frames := 1, cells := 0, slots := 0, locals := 12 } : Room) s m args below meth c 1 D B 0 0 (MQ below (QN D B (o + 1) F) args s 0 0 (aB B)) pc9 lcs9 [] (o + 1) F := fun _ _ hd => n_vret C hrT hlk hd
  generalize (MQ below (QN D B (o + 1) F) args s 0 0 (aB B)) = Q at hret ⊢
  obtain ⟨R, hR9⟩ : ∃ R : Room, R = ({ frames := 1, cells := 0, slots := 0, locals := 12 } : Room) := ⟨_, rfl⟩
  rw [← hR9] at hret ⊢
  show N p l e R s m args below meth c 1 D B 0 0 Q 0 [(0, .ref (B + o))] [] (o + 1) F
  refine n_aload_n C dX4_init_0 rfl 0 rfl ?_
  refine n_obj C (lw_g_mk tw_78 rfl) (lw_g_mk tw_32 rfl) (lw_g_mk tw_33 rfl) (by rw [hR9]; exact Nat.le_of_ble_eq_true rfl) (by rw [hR9]; exact Nat.le_of_ble_eq_true rfl) dX4_init_1 ?_
  exact hret _ _ dX4_init_4
set_option maxHeartbeats 4000000 in
set_option maxRecDepth 100000 in
theorem okN_Booking (l : Launch) (cy : Nat → ClassId) (D : va_G) (B : Nat) (ek : EK) (o : Nat) (F : Nat → va_E)  : CTN l cy D B ek yX0_init cX0_init 1 ({ frames := 1, cells := 0, slots := 0, locals := 12 } : Room) 0 0 [.ref (B + o)] (o + 1) F (o + 1) F := by
  refine met_N (own := "HostelBeds$Booking") (by decide) rfl (Nat.le_of_ble_eq_true rfl) ?_
  intro p e s m args below meth c C hE hB hnm hrT hlk
  have hret : ∀ (pc9 : Nat) (lcs9 : List (Nat × Value)), decode cX0_init pc9 = .ok (.return_, 1) → N p l e ({ frames := 1, cells := 0, slots := 0, locals := 12 } : Room) s m args below meth c 1 D B 0 0 (MQ below (QN D B (o + 1) F) args s 0 0 (aB B)) pc9 lcs9 [] (o + 1) F := fun _ _ hd => n_vret C hrT hlk hd
  generalize (MQ below (QN D B (o + 1) F) args s 0 0 (aB B)) = Q at hret ⊢
  obtain ⟨R, hR9⟩ : ∃ R : Room, R = ({ frames := 1, cells := 0, slots := 0, locals := 12 } : Room) := ⟨_, rfl⟩
  rw [← hR9] at hret ⊢
  show N p l e R s m args below meth c 1 D B 0 0 Q 0 [(0, .ref (B + o))] [] (o + 1) F
  refine n_aload_n C dX0_init_0 rfl 0 rfl ?_
  refine n_obj C (lw_g_mk tw_110 rfl) (lw_g_mk tw_32 rfl) (lw_g_mk tw_33 rfl) (by rw [hR9]; exact Nat.le_of_ble_eq_true rfl) (by rw [hR9]; exact Nat.le_of_ble_eq_true rfl) dX0_init_1 ?_
  exact hret _ _ dX0_init_4
def cellsInput (cy : Nat → ClassId) (B o : Nat) : List va_E := [.inr (4, [.ref (B + (o + 1)), .int 0, .int 0, .int 0, .int 0, .long 0, .int 0]), .inl (cy 2, 700, .inl (fun _ => 0))]
set_option maxHeartbeats 4000000 in
set_option maxRecDepth 100000 in
theorem okN_Input (l : Launch) (cy : Nat → ClassId) (D : va_G) (B : Nat) (ek : EK) (o : Nat) (F : Nat → va_E) (h0 : F o = .inr (4, [.null, .int 0, .int 0, .int 0, .int 0, .long 0, .int 0])) : CTN l cy D B ek yX2_init cX2_init 1 ({ frames := 1, cells := 1, slots := 700, locals := 12 } : Room) 1 700 [.ref (B + o)] (o + 1) F (o + 2) (fl F o (cellsInput cy B o)) := by
  refine met_N (own := "HostelBeds$Input") (by decide) rfl (Nat.le_of_ble_eq_true rfl) ?_
  intro p e s m args below meth c C hE hB hnm hrT hlk
  have hret : ∀ (pc9 : Nat) (lcs9 : List (Nat × Value)), decode cX2_init pc9 = .ok (.return_, 1) → N p l e ({ frames := 1, cells := 1, slots := 700, locals := 12 } : Room) s m args below meth c 1 D B 1 700 (MQ below (QN D B (o + 2) (fl F o (cellsInput cy B o))) args s 1 700 (aB B)) pc9 lcs9 [] (o + 2) (fl F o (cellsInput cy B o)) := fun _ _ hd => n_vret C hrT hlk hd
  generalize (MQ below (QN D B (o + 2) (fl F o (cellsInput cy B o))) args s 1 700 (aB B)) = Q at hret ⊢
  obtain ⟨R, hR9⟩ : ∃ R : Room, R = ({ frames := 1, cells := 1, slots := 700, locals := 12 } : Room) := ⟨_, rfl⟩
  rw [← hR9] at hret ⊢
  show N p l e R s m args below meth c 1 D B 0 0 Q 0 [(0, .ref (B + o))] [] (o + 1) F
  refine n_ext (fl_one h0) ?_
  refine n_aload_n C dX2_init_0 rfl 0 rfl ?_
  refine n_obj C (lw_g_mk tw_39 rfl) (lw_g_mk tw_32 rfl) (lw_g_mk tw_33 rfl) (by rw [hR9]; exact Nat.le_of_ble_eq_true rfl) (by rw [hR9]; exact Nat.le_of_ble_eq_true rfl) dX2_init_1 ?_
  refine n_aload_n C dX2_init_4 rfl 0 rfl ?_
  refine n_sipush C (v := 700) dX2_init_5 (by decide) ?_
  refine n_newa C (atype := .byte) (lw_g_mk tw_63 rfl) (C.2.2.2.2.2.1.2 2 _ rfl).2 (z := 700) (a0 := (700, .inl (fun _ => 0))) rfl (by decide) (by decide) (Nat.le_of_ble_eq_true rfl) (by omega) (by rw [hR9]; exact Nat.le_of_ble_eq_true rfl) (by rw [hR9]; exact Nat.le_of_ble_eq_true rfl) dX2_init_8 (fl_push (L2 := [.inr (4, [.null, .int 0, .int 0, .int 0, .int 0, .long 0, .int 0]), .inl (cy 2, 700, .inl (fun _ => 0))]) rfl rfl) ?_
  refine n_putF C (C1 := "HostelBeds$Input") (T := TX2) (N1 := 7) (ci := 4) inXg2 tyX2 tyX2_ok nmX2 (o) (by omega) (fl_at (i := 0) rfl) rfl 0 (by decide) (lw_g_mk tw_40 rfl) rfl hnm rfl rfl rfl rfl (Nat.le_of_ble_eq_true rfl) dX2_init_10 (fl_set (i := 0) (L2 := [.inr (4, [.ref (B + (o + 1)), .int 0, .int 0, .int 0, .int 0, .long 0, .int 0]), .inl (cy 2, 700, .inl (fun _ => 0))]) rfl (Nat.le_of_ble_eq_true rfl) rfl) ?_
  show N p l e R s m args below meth c 1 D B 1 700 Q 13 [(0, .ref (B + o))] [] (o + 2) (fl F o [.inr (4, [.ref (B + (o + 1)), .int 0, .int 0, .int 0, .int 0, .long 0, .int 0]), .inl (cy 2, 700, .inl (fun _ => 0))])
  exact hret _ _ dX2_init_13
def cellsPlan (cy : Nat → ClassId) (B o : Nat) : List va_E := [.inr (5, [.ref (B + (o + 1)), .ref (B + (o + 2)), .ref (B + (o + 3)), .ref (B + (o + 4)), .ref (B + (o + 5)), .int 0, .int 0, .ref (B + (o + 6))]), .inl (cy 0, 80, .inl (fun _ => 0)), .inl (cy 0, 204, .inl (fun _ => 0)), .inl (cy 0, 17, .inl (fun _ => 0)), .inl (cy 0, 17, .inl (fun _ => 0)), .inl (cy 0, 17, .inl (fun _ => 0)), .inl (cy 0, 8, .inl (fun _ => 0))]
set_option maxHeartbeats 4000000 in
set_option maxRecDepth 100000 in
theorem okN_Plan (l : Launch) (cy : Nat → ClassId) (D : va_G) (B : Nat) (ek : EK) (o : Nat) (F : Nat → va_E) (h0 : F o = .inr (5, [.null, .null, .null, .null, .null, .int 0, .int 0, .null])) : CTN l cy D B ek yX3_init cX3_init 1 ({ frames := 1, cells := 6, slots := 343, locals := 12 } : Room) 6 343 [.ref (B + o)] (o + 1) F (o + 7) (fl F o (cellsPlan cy B o)) := by
  refine met_N (own := "HostelBeds$Plan") (by decide) rfl (Nat.le_of_ble_eq_true rfl) ?_
  intro p e s m args below meth c C hE hB hnm hrT hlk
  have hret : ∀ (pc9 : Nat) (lcs9 : List (Nat × Value)), decode cX3_init pc9 = .ok (.return_, 1) → N p l e ({ frames := 1, cells := 6, slots := 343, locals := 12 } : Room) s m args below meth c 1 D B 6 343 (MQ below (QN D B (o + 7) (fl F o (cellsPlan cy B o))) args s 6 343 (aB B)) pc9 lcs9 [] (o + 7) (fl F o (cellsPlan cy B o)) := fun _ _ hd => n_vret C hrT hlk hd
  generalize (MQ below (QN D B (o + 7) (fl F o (cellsPlan cy B o))) args s 6 343 (aB B)) = Q at hret ⊢
  obtain ⟨R, hR9⟩ : ∃ R : Room, R = ({ frames := 1, cells := 6, slots := 343, locals := 12 } : Room) := ⟨_, rfl⟩
  rw [← hR9] at hret ⊢
  show N p l e R s m args below meth c 1 D B 0 0 Q 0 [(0, .ref (B + o))] [] (o + 1) F
  refine n_ext (fl_one h0) ?_
  refine n_aload_n C dX3_init_0 rfl 0 rfl ?_
  refine n_obj C (lw_g_mk tw_252 rfl) (lw_g_mk tw_32 rfl) (lw_g_mk tw_33 rfl) (by rw [hR9]; exact Nat.le_of_ble_eq_true rfl) (by rw [hR9]; exact Nat.le_of_ble_eq_true rfl) dX3_init_1 ?_
  refine n_aload_n C dX3_init_4 rfl 0 rfl ?_
  refine n_bipush C (v := 80) dX3_init_5 (by decide) ?_
  refine n_newa C (atype := .int) (lw_g_mk tw_105 rfl) (C.2.2.2.2.2.1.2 0 _ rfl).2 (z := 80) (a0 := (80, .inl (fun _ => 0))) rfl (by decide) (by decide) (Nat.le_of_ble_eq_true rfl) (by omega) (by rw [hR9]; exact Nat.le_of_ble_eq_true rfl) (by rw [hR9]; exact Nat.le_of_ble_eq_true rfl) dX3_init_7 (fl_push (L2 := [.inr (5, [.null, .null, .null, .null, .null, .int 0, .int 0, .null]), .inl (cy 0, 80, .inl (fun _ => 0))]) rfl rfl) ?_
  refine n_putF C (C1 := "HostelBeds$Plan") (T := TX3) (N1 := 8) (ci := 5) inXg3 tyX3 tyX3_ok nmX3 (o) (by omega) (fl_at (i := 0) rfl) rfl 0 (by decide) (lw_g_mk tw_253 rfl) rfl hnm rfl rfl rfl rfl (Nat.le_of_ble_eq_true rfl) dX3_init_9 (fl_set (i := 0) (L2 := [.inr (5, [.ref (B + (o + 1)), .null, .null, .null, .null, .int 0, .int 0, .null]), .inl (cy 0, 80, .inl (fun _ => 0))]) rfl (Nat.le_of_ble_eq_true rfl) rfl) ?_
  show N p l e R s m args below meth c 1 D B 1 80 Q 12 [(0, .ref (B + o))] [] (o + 2) (fl F o [.inr (5, [.ref (B + (o + 1)), .null, .null, .null, .null, .int 0, .int 0, .null]), .inl (cy 0, 80, .inl (fun _ => 0))])
  refine n_aload_n C dX3_init_12 rfl 0 rfl ?_
  refine n_sipush C (v := 204) dX3_init_13 (by decide) ?_
  refine n_newa C (atype := .int) (lw_g_mk tw_105 rfl) (C.2.2.2.2.2.1.2 0 _ rfl).2 (z := 204) (a0 := (204, .inl (fun _ => 0))) rfl (by decide) (by decide) (Nat.le_of_ble_eq_true rfl) (by omega) (by rw [hR9]; exact Nat.le_of_ble_eq_true rfl) (by rw [hR9]; exact Nat.le_of_ble_eq_true rfl) dX3_init_16 (fl_push (L2 := [.inr (5, [.ref (B + (o + 1)), .null, .null, .null, .null, .int 0, .int 0, .null]), .inl (cy 0, 80, .inl (fun _ => 0)), .inl (cy 0, 204, .inl (fun _ => 0))]) rfl rfl) ?_
  refine n_putF C (C1 := "HostelBeds$Plan") (T := TX3) (N1 := 8) (ci := 5) inXg3 tyX3 tyX3_ok nmX3 (o) (by omega) (fl_at (i := 0) rfl) rfl 1 (by decide) (lw_g_mk tw_254 rfl) rfl hnm rfl rfl rfl rfl (Nat.le_of_ble_eq_true rfl) dX3_init_18 (fl_set (i := 0) (L2 := [.inr (5, [.ref (B + (o + 1)), .ref (B + (o + 2)), .null, .null, .null, .int 0, .int 0, .null]), .inl (cy 0, 80, .inl (fun _ => 0)), .inl (cy 0, 204, .inl (fun _ => 0))]) rfl (Nat.le_of_ble_eq_true rfl) rfl) ?_
  show N p l e R s m args below meth c 1 D B 2 284 Q 21 [(0, .ref (B + o))] [] (o + 3) (fl F o [.inr (5, [.ref (B + (o + 1)), .ref (B + (o + 2)), .null, .null, .null, .int 0, .int 0, .null]), .inl (cy 0, 80, .inl (fun _ => 0)), .inl (cy 0, 204, .inl (fun _ => 0))])
  refine n_aload_n C dX3_init_21 rfl 0 rfl ?_
  refine n_bipush C (v := 17) dX3_init_22 (by decide) ?_
  refine n_newa C (atype := .int) (lw_g_mk tw_105 rfl) (C.2.2.2.2.2.1.2 0 _ rfl).2 (z := 17) (a0 := (17, .inl (fun _ => 0))) rfl (by decide) (by decide) (Nat.le_of_ble_eq_true rfl) (by omega) (by rw [hR9]; exact Nat.le_of_ble_eq_true rfl) (by rw [hR9]; exact Nat.le_of_ble_eq_true rfl) dX3_init_24 (fl_push (L2 := [.inr (5, [.ref (B + (o + 1)), .ref (B + (o + 2)), .null, .null, .null, .int 0, .int 0, .null]), .inl (cy 0, 80, .inl (fun _ => 0)), .inl (cy 0, 204, .inl (fun _ => 0)), .inl (cy 0, 17, .inl (fun _ => 0))]) rfl rfl) ?_
  refine n_putF C (C1 := "HostelBeds$Plan") (T := TX3) (N1 := 8) (ci := 5) inXg3 tyX3 tyX3_ok nmX3 (o) (by omega) (fl_at (i := 0) rfl) rfl 2 (by decide) (lw_g_mk tw_256 rfl) rfl hnm rfl rfl rfl rfl (Nat.le_of_ble_eq_true rfl) dX3_init_26 (fl_set (i := 0) (L2 := [.inr (5, [.ref (B + (o + 1)), .ref (B + (o + 2)), .ref (B + (o + 3)), .null, .null, .int 0, .int 0, .null]), .inl (cy 0, 80, .inl (fun _ => 0)), .inl (cy 0, 204, .inl (fun _ => 0)), .inl (cy 0, 17, .inl (fun _ => 0))]) rfl (Nat.le_of_ble_eq_true rfl) rfl) ?_
  show N p l e R s m args below meth c 1 D B 3 301 Q 29 [(0, .ref (B + o))] [] (o + 4) (fl F o [.inr (5, [.ref (B + (o + 1)), .ref (B + (o + 2)), .ref (B + (o + 3)), .null, .null, .int 0, .int 0, .null]), .inl (cy 0, 80, .inl (fun _ => 0)), .inl (cy 0, 204, .inl (fun _ => 0)), .inl (cy 0, 17, .inl (fun _ => 0))])
  refine n_aload_n C dX3_init_29 rfl 0 rfl ?_
  refine n_bipush C (v := 17) dX3_init_30 (by decide) ?_
  refine n_newa C (atype := .int) (lw_g_mk tw_105 rfl) (C.2.2.2.2.2.1.2 0 _ rfl).2 (z := 17) (a0 := (17, .inl (fun _ => 0))) rfl (by decide) (by decide) (Nat.le_of_ble_eq_true rfl) (by omega) (by rw [hR9]; exact Nat.le_of_ble_eq_true rfl) (by rw [hR9]; exact Nat.le_of_ble_eq_true rfl) dX3_init_32 (fl_push (L2 := [.inr (5, [.ref (B + (o + 1)), .ref (B + (o + 2)), .ref (B + (o + 3)), .null, .null, .int 0, .int 0, .null]), .inl (cy 0, 80, .inl (fun _ => 0)), .inl (cy 0, 204, .inl (fun _ => 0)), .inl (cy 0, 17, .inl (fun _ => 0)), .inl (cy 0, 17, .inl (fun _ => 0))]) rfl rfl) ?_
  refine n_putF C (C1 := "HostelBeds$Plan") (T := TX3) (N1 := 8) (ci := 5) inXg3 tyX3 tyX3_ok nmX3 (o) (by omega) (fl_at (i := 0) rfl) rfl 3 (by decide) (lw_g_mk tw_258 rfl) rfl hnm rfl rfl rfl rfl (Nat.le_of_ble_eq_true rfl) dX3_init_34 (fl_set (i := 0) (L2 := [.inr (5, [.ref (B + (o + 1)), .ref (B + (o + 2)), .ref (B + (o + 3)), .ref (B + (o + 4)), .null, .int 0, .int 0, .null]), .inl (cy 0, 80, .inl (fun _ => 0)), .inl (cy 0, 204, .inl (fun _ => 0)), .inl (cy 0, 17, .inl (fun _ => 0)), .inl (cy 0, 17, .inl (fun _ => 0))]) rfl (Nat.le_of_ble_eq_true rfl) rfl) ?_
  show N p l e R s m args below meth c 1 D B 4 318 Q 37 [(0, .ref (B + o))] [] (o + 5) (fl F o [.inr (5, [.ref (B + (o + 1)), .ref (B + (o + 2)), .ref (B + (o + 3)), .ref (B + (o + 4)), .null, .int 0, .int 0, .null]), .inl (cy 0, 80, .inl (fun _ => 0)), .inl (cy 0, 204, .inl (fun _ => 0)), .inl (cy 0, 17, .inl (fun _ => 0)), .inl (cy 0, 17, .inl (fun _ => 0))])
  refine n_aload_n C dX3_init_37 rfl 0 rfl ?_
  refine n_bipush C (v := 17) dX3_init_38 (by decide) ?_
  refine n_newa C (atype := .int) (lw_g_mk tw_105 rfl) (C.2.2.2.2.2.1.2 0 _ rfl).2 (z := 17) (a0 := (17, .inl (fun _ => 0))) rfl (by decide) (by decide) (Nat.le_of_ble_eq_true rfl) (by omega) (by rw [hR9]; exact Nat.le_of_ble_eq_true rfl) (by rw [hR9]; exact Nat.le_of_ble_eq_true rfl) dX3_init_40 (fl_push (L2 := [.inr (5, [.ref (B + (o + 1)), .ref (B + (o + 2)), .ref (B + (o + 3)), .ref (B + (o + 4)), .null, .int 0, .int 0, .null]), .inl (cy 0, 80, .inl (fun _ => 0)), .inl (cy 0, 204, .inl (fun _ => 0)), .inl (cy 0, 17, .inl (fun _ => 0)), .inl (cy 0, 17, .inl (fun _ => 0)), .inl (cy 0, 17, .inl (fun _ => 0))]) rfl rfl) ?_
  refine n_putF C (C1 := "HostelBeds$Plan") (T := TX3) (N1 := 8) (ci := 5) inXg3 tyX3 tyX3_ok nmX3 (o) (by omega) (fl_at (i := 0) rfl) rfl 4 (by decide) (lw_g_mk tw_260 rfl) rfl hnm rfl rfl rfl rfl (Nat.le_of_ble_eq_true rfl) dX3_init_42 (fl_set (i := 0) (L2 := [.inr (5, [.ref (B + (o + 1)), .ref (B + (o + 2)), .ref (B + (o + 3)), .ref (B + (o + 4)), .ref (B + (o + 5)), .int 0, .int 0, .null]), .inl (cy 0, 80, .inl (fun _ => 0)), .inl (cy 0, 204, .inl (fun _ => 0)), .inl (cy 0, 17, .inl (fun _ => 0)), .inl (cy 0, 17, .inl (fun _ => 0)), .inl (cy 0, 17, .inl (fun _ => 0))]) rfl (Nat.le_of_ble_eq_true rfl) rfl) ?_
  show N p l e R s m args below meth c 1 D B 5 335 Q 45 [(0, .ref (B + o))] [] (o + 6) (fl F o [.inr (5, [.ref (B + (o + 1)), .ref (B + (o + 2)), .ref (B + (o + 3)), .ref (B + (o + 4)), .ref (B + (o + 5)), .int 0, .int 0, .null]), .inl (cy 0, 80, .inl (fun _ => 0)), .inl (cy 0, 204, .inl (fun _ => 0)), .inl (cy 0, 17, .inl (fun _ => 0)), .inl (cy 0, 17, .inl (fun _ => 0)), .inl (cy 0, 17, .inl (fun _ => 0))])
  refine n_aload_n C dX3_init_45 rfl 0 rfl ?_
  refine n_bipush C (v := 8) dX3_init_46 (by decide) ?_
  refine n_newa C (atype := .int) (lw_g_mk tw_105 rfl) (C.2.2.2.2.2.1.2 0 _ rfl).2 (z := 8) (a0 := (8, .inl (fun _ => 0))) rfl (by decide) (by decide) (Nat.le_of_ble_eq_true rfl) (by omega) (by rw [hR9]; exact Nat.le_of_ble_eq_true rfl) (by rw [hR9]; exact Nat.le_of_ble_eq_true rfl) dX3_init_48 (fl_push (L2 := [.inr (5, [.ref (B + (o + 1)), .ref (B + (o + 2)), .ref (B + (o + 3)), .ref (B + (o + 4)), .ref (B + (o + 5)), .int 0, .int 0, .null]), .inl (cy 0, 80, .inl (fun _ => 0)), .inl (cy 0, 204, .inl (fun _ => 0)), .inl (cy 0, 17, .inl (fun _ => 0)), .inl (cy 0, 17, .inl (fun _ => 0)), .inl (cy 0, 17, .inl (fun _ => 0)), .inl (cy 0, 8, .inl (fun _ => 0))]) rfl rfl) ?_
  refine n_putF C (C1 := "HostelBeds$Plan") (T := TX3) (N1 := 8) (ci := 5) inXg3 tyX3 tyX3_ok nmX3 (o) (by omega) (fl_at (i := 0) rfl) rfl 7 (by decide) (lw_g_mk tw_266 rfl) rfl hnm rfl rfl rfl rfl (Nat.le_of_ble_eq_true rfl) dX3_init_50 (fl_set (i := 0) (L2 := [.inr (5, [.ref (B + (o + 1)), .ref (B + (o + 2)), .ref (B + (o + 3)), .ref (B + (o + 4)), .ref (B + (o + 5)), .int 0, .int 0, .ref (B + (o + 6))]), .inl (cy 0, 80, .inl (fun _ => 0)), .inl (cy 0, 204, .inl (fun _ => 0)), .inl (cy 0, 17, .inl (fun _ => 0)), .inl (cy 0, 17, .inl (fun _ => 0)), .inl (cy 0, 17, .inl (fun _ => 0)), .inl (cy 0, 8, .inl (fun _ => 0))]) rfl (Nat.le_of_ble_eq_true rfl) rfl) ?_
  show N p l e R s m args below meth c 1 D B 6 343 Q 53 [(0, .ref (B + o))] [] (o + 7) (fl F o [.inr (5, [.ref (B + (o + 1)), .ref (B + (o + 2)), .ref (B + (o + 3)), .ref (B + (o + 4)), .ref (B + (o + 5)), .int 0, .int 0, .ref (B + (o + 6))]), .inl (cy 0, 80, .inl (fun _ => 0)), .inl (cy 0, 204, .inl (fun _ => 0)), .inl (cy 0, 17, .inl (fun _ => 0)), .inl (cy 0, 17, .inl (fun _ => 0)), .inl (cy 0, 17, .inl (fun _ => 0)), .inl (cy 0, 8, .inl (fun _ => 0))])
  exact hret _ _ dX3_init_53
def rowH (cy : Nat → ClassId) (B o : Nat) (hd : va_E) (f g : Nat → Option Nat) (i j : Nat) : List va_E := hd :: .inl (cy 5, 8, .inr (.inr (.inr (.inr f)))) :: .inl (cy 6, 17, .inr (.inr (.inr (.inr g)))) :: .inl (cy 0, 17, .inl (fun _ => 0)) :: .inl (cy 0, 30, .inl (fun _ => 0)) :: (List.replicate i (.inr (6, [.long 0, .int 0, .int 0, .int 0, .int 0])) ++ List.replicate j (.inr (2, [.long 0, .int 0, .int 0, .int 0, .int 0, .int 0, .int 0, .int 0, .int 0, .int 0, .int 0])))
theorem rowH_len {cy : Nat → ClassId} {B o : Nat} {hd : va_E} {f g : Nat → Option Nat} {i j : Nat} : (rowH cy B o hd f g i j).length = 5 + i + j := by simp [rowH]; omega
theorem rowH_room {cy : Nat → ClassId} {B o : Nat} {hd : va_E} {f g : Nat → Option Nat} {i : Nat} : rowH cy B o hd f g i 0 ++ [.inr (6, [.long 0, .int 0, .int 0, .int 0, .int 0])] = rowH cy B o hd f g (i + 1) 0 := by simp [rowH, List.replicate_succ']
theorem rowH_bk {cy : Nat → ClassId} {B o : Nat} {hd : va_E} {f g : Nat → Option Nat} {i j : Nat} : rowH cy B o hd f g i j ++ [.inr (2, [.long 0, .int 0, .int 0, .int 0, .int 0, .int 0, .int 0, .int 0, .int 0, .int 0, .int 0])] = rowH cy B o hd f g i (j + 1) := by simp [rowH, List.replicate_succ']
def objH (B o : Nat) (a b d e : Int32) : va_E := .inr (3, [.ref (B + (o + 1)), .int 0, .int 0, .ref (B + (o + 2)), .int 0, .ref (B + (o + 3)), .int 0, .ref (B + (o + 4)), .int a, .int b, .int d, .int e])
def cellsHostel (cy : Nat → ClassId) (B o : Nat) : List va_E := rowH cy B o (objH B o 0 60 7 10) (fun k => some (B + (o + 5 + k))) (fun k => some (B + (o + 13 + k))) 8 17
def cellsHostel0 (cy : Nat → ClassId) (B o : Nat) (a b d e : Int32) : List va_E := rowH cy B o (objH B o a b d e) (fun k => some (B + (o + 5 + k))) (fun k => some (B + (o + 13 + k))) 8 17
set_option maxHeartbeats 4000000 in
set_option maxRecDepth 100000 in
theorem okN_forgetStates (l : Launch) (cy : Nat → ClassId) (D : va_G) (B : Nat) (ek : EK) (o : Nat) (F : Nat → va_E)  : CTN l cy D B ek yX1_forgetStates cX1_forgetStates 2 ({ frames := 0, cells := 0, slots := 0, locals := 0 } : Room) 0 0 [.ref (B + o)] (o + 30) (fl F o (cellsHostel0 cy B o 0 0 0 0)) (o + 30) (fl F o (cellsHostel0 cy B o 0 0 0 0)) := by
  refine met_N (own := "HostelBeds$Hostel") (by decide) rfl (Nat.le_of_ble_eq_true rfl) ?_
  intro p e s m args below meth c C hE hB hnm hrT hlk
  have hret : ∀ (pc9 : Nat) (lcs9 : List (Nat × Value)), decode cX1_forgetStates pc9 = .ok (.return_, 1) → N p l e ({ frames := 0, cells := 0, slots := 0, locals := 0 } : Room) s m args below meth c 2 D B 0 0 (MQ below (QN D B (o + 30) (fl F o (cellsHostel0 cy B o 0 0 0 0))) args s 0 0 (aB B)) pc9 lcs9 [] (o + 30) (fl F o (cellsHostel0 cy B o 0 0 0 0)) := fun _ _ hd => n_vret C hrT hlk hd
  generalize (MQ below (QN D B (o + 30) (fl F o (cellsHostel0 cy B o 0 0 0 0))) args s 0 0 (aB B)) = Q at hret ⊢
  obtain ⟨R, hR9⟩ : ∃ R : Room, R = ({ frames := 0, cells := 0, slots := 0, locals := 0 } : Room) := ⟨_, rfl⟩
  rw [← hR9] at hret ⊢
  show N p l e R s m args below meth c 2 D B 0 0 Q 0 [(0, .ref (B + o))] [] (o + 30) (fl F o (cellsHostel0 cy B o 0 0 0 0))
  refine n_aload_n C dX1_forgetStates_0 rfl 0 rfl ?_
  refine n_iconst C (v := 0) dX1_forgetStates_1 (by decide) ?_
  refine n_put C (C1 := "HostelBeds$Hostel") (T := TX1) (N1 := 12) (ci := 3) inXg1 tyX1 tyX1_ok nmX1 o (by omega) (fl_at (i := 0) rfl) rfl 6 (by decide) (lw_g_mk tw_203 rfl) rfl rfl rfl rfl (Nat.le_of_ble_eq_true rfl) dX1_forgetStates_2 (fl_set (i := 0) (L2 := cellsHostel0 cy B o 0 0 0 0) rfl (Nat.le_of_ble_eq_true rfl) rfl) ?_
  refine n_iconst C (v := 0) dX1_forgetStates_5 (by decide) ?_
  refine n_istore_n C [(1, .int 0), (0, .ref (B + o))] dX1_forgetStates_6 rfl (by decide) rfl ?_
  have hloop : ∀ (k i : Nat), i + k = 30 → N p l e R s m args below meth c 2 D B 0 0 Q 7 [(0, .ref (B + o)), (1, .int (nI i))] [] (o + 30) (fl F o (cellsHostel0 cy B o 0 0 0 0)) := by
    intro k
    induction k with
    | zero =>
      intro i hi
      refine n_iload_n C dX1_forgetStates_7 rfl 1 rfl ?_
      refine n_aload_n C dX1_forgetStates_8 rfl 0 rfl ?_
      refine n_get C (C1 := "HostelBeds$Hostel") (T := TX1) (N1 := 12) (ci := 3) inXg1 o (by omega) (fl_at (i := 0) rfl) rfl 7 (by decide) (lw_g_mk tw_205 rfl) rfl dX1_forgetStates_9 ?_
      refine n_alen C (o + 4) 0 (by omega) (fl_at (i := 4) rfl) rfl (v := 30) rfl dX1_forgetStates_12 ?_
      refine n_icmp_ge C (tgt := 29) dX1_forgetStates_13 (by decide) (fun hc => ?_) (fun hc => ?_)
      · exact hret _ _ dX1_forgetStates_29
      · exact absurd (nI_go (b := 30) (by decide) rfl (by omega) hc) (by omega)
    | succ k ih =>
      intro i hi
      refine n_iload_n C dX1_forgetStates_7 rfl 1 rfl ?_
      refine n_aload_n C dX1_forgetStates_8 rfl 0 rfl ?_
      refine n_get C (C1 := "HostelBeds$Hostel") (T := TX1) (N1 := 12) (ci := 3) inXg1 o (by omega) (fl_at (i := 0) rfl) rfl 7 (by decide) (lw_g_mk tw_205 rfl) rfl dX1_forgetStates_9 ?_
      refine n_alen C (o + 4) 0 (by omega) (fl_at (i := 4) rfl) rfl (v := 30) rfl dX1_forgetStates_12 ?_
      refine n_icmp_ge C (tgt := 29) dX1_forgetStates_13 (by decide) (fun hc => ?_) (fun hc => ?_)
      · exact absurd (nI_end30 i (by omega) hc) (by omega)
      · refine n_aload_n C dX1_forgetStates_16 rfl 0 rfl ?_
        refine n_get C (C1 := "HostelBeds$Hostel") (T := TX1) (N1 := 12) (ci := 3) inXg1 o (by omega) (fl_at (i := 0) rfl) rfl 7 (by decide) (lw_g_mk tw_205 rfl) rfl dX1_forgetStates_17 ?_
        refine n_iload_n C dX1_forgetStates_20 rfl 1 rfl ?_
        refine n_iconst C (v := 0) dX1_forgetStates_21 (by decide) ?_
        refine n_iast C (o + 4) (by omega) (fl_at (i := 4) rfl) (nI_in (by omega) (by decide)) dX1_forgetStates_22 (F' := fl F o (cellsHostel0 cy B o 0 0 0 0)) (by rw [up_zero]; exact fl_set (i := 4) rfl (Nat.le_of_ble_eq_true rfl) rfl) ?_
        refine n_iinc C (k := 1) [(1, .int (nI (i + 1))), (0, .ref (B + o))] dX1_forgetStates_23 rfl (by rw [nI_succ]; rfl) (by decide) rfl ?_
        refine n_goto C (tgt := 7) dX1_forgetStates_26 (by decide) ?_
        refine n_sub [1, 0] rfl ?_
        exact ih (i + 1) (by omega)
  refine n_sub [1, 0] rfl ?_
  exact hloop 30 0 rfl
set_option maxHeartbeats 4000000 in
set_option maxRecDepth 100000 in
theorem okN_clear (l : Launch) (cy : Nat → ClassId) (D : va_G) (B : Nat) (ek : EK) (o : Nat) (F : Nat → va_E)  : CTN l cy D B ek yX1_clear cX1_clear 1 ({ frames := 1, cells := 0, slots := 0, locals := 21 } : Room) 0 0 [.ref (B + o)] (o + 30) (fl F o (cellsHostel0 cy B o 0 0 0 0)) (o + 30) (fl F o (cellsHostel cy B o)) := by
  refine met_N (own := "HostelBeds$Hostel") (by decide) rfl (Nat.le_of_ble_eq_true rfl) ?_
  intro p e s m args below meth c C hE hB hnm hrT hlk
  have hret : ∀ (pc9 : Nat) (lcs9 : List (Nat × Value)), decode cX1_clear pc9 = .ok (.return_, 1) → N p l e ({ frames := 1, cells := 0, slots := 0, locals := 21 } : Room) s m args below meth c 1 D B 0 0 (MQ below (QN D B (o + 30) (fl F o (cellsHostel cy B o))) args s 0 0 (aB B)) pc9 lcs9 [] (o + 30) (fl F o (cellsHostel cy B o)) := fun _ _ hd => n_vret C hrT hlk hd
  generalize (MQ below (QN D B (o + 30) (fl F o (cellsHostel cy B o))) args s 0 0 (aB B)) = Q at hret ⊢
  obtain ⟨R, hR9⟩ : ∃ R : Room, R = ({ frames := 1, cells := 0, slots := 0, locals := 21 } : Room) := ⟨_, rfl⟩
  rw [← hR9] at hret ⊢
  show N p l e R s m args below meth c 1 D B 0 0 Q 0 [(0, .ref (B + o))] [] (o + 30) (fl F o (cellsHostel0 cy B o 0 0 0 0))
  refine n_aload_n C dX1_clear_0 rfl 0 rfl ?_
  refine n_iconst C (v := 0) dX1_clear_1 (by decide) ?_
  refine n_put C (C1 := "HostelBeds$Hostel") (T := TX1) (N1 := 12) (ci := 3) inXg1 tyX1 tyX1_ok nmX1 o (by omega) (fl_at (i := 0) rfl) rfl 1 (by decide) (lw_g_mk tw_186 rfl) rfl rfl rfl rfl (Nat.le_of_ble_eq_true rfl) dX1_clear_2 (fl_set (i := 0) (L2 := cellsHostel0 cy B o 0 0 0 0) rfl (Nat.le_of_ble_eq_true rfl) rfl) ?_
  refine n_aload_n C dX1_clear_5 rfl 0 rfl ?_
  refine n_iconst C (v := 0) dX1_clear_6 (by decide) ?_
  refine n_put C (C1 := "HostelBeds$Hostel") (T := TX1) (N1 := 12) (ci := 3) inXg1 tyX1 tyX1_ok nmX1 o (by omega) (fl_at (i := 0) rfl) rfl 2 (by decide) (lw_g_mk tw_190 rfl) rfl rfl rfl rfl (Nat.le_of_ble_eq_true rfl) dX1_clear_7 (fl_set (i := 0) (L2 := cellsHostel0 cy B o 0 0 0 0) rfl (Nat.le_of_ble_eq_true rfl) rfl) ?_
  refine n_aload_n C dX1_clear_10 rfl 0 rfl ?_
  refine n_iconst C (v := 0) dX1_clear_11 (by decide) ?_
  refine n_put C (C1 := "HostelBeds$Hostel") (T := TX1) (N1 := 12) (ci := 3) inXg1 tyX1 tyX1_ok nmX1 o (by omega) (fl_at (i := 0) rfl) rfl 4 (by decide) (lw_g_mk tw_197 rfl) rfl rfl rfl rfl (Nat.le_of_ble_eq_true rfl) dX1_clear_12 (fl_set (i := 0) (L2 := cellsHostel0 cy B o 0 0 0 0) rfl (Nat.le_of_ble_eq_true rfl) rfl) ?_
  refine n_aload_n C dX1_clear_15 rfl 0 rfl ?_
  refine n_callV C (rest := []) (lw_g_mk tw_178 rfl) (lw_g_mk tw_180 rfl) (fl_at (i := 0) rfl) (by omega) (C1 := "HostelBeds$Hostel") (T := TX1) (N1 := 12) (ci := 3) rfl hE (okN_forgetStates l cy D B ek o F) rfl rfl (by rw [hR9]; exact ⟨Nat.le_of_ble_eq_true rfl, Nat.le_of_ble_eq_true rfl⟩) (lw_g_mk tw_181 rfl) (lw_g_mk tw_3 rfl) (by decide) rfl (lw_g_mk tw_179 rfl) rfl (Nat.le_of_ble_eq_true rfl) (by omega) dX1_clear_16 (by rw [hR9]; exact ⟨Nat.le_of_ble_eq_true rfl, Nat.le_of_ble_eq_true rfl⟩) (F' := (fl F o (cellsHostel0 cy B o 0 0 0 0))) (fun _ _ => rfl) ?_
  refine n_aload_n C dX1_clear_19 rfl 0 rfl ?_
  refine n_iconst C (v := 0) dX1_clear_20 (by decide) ?_
  refine n_put C (C1 := "HostelBeds$Hostel") (T := TX1) (N1 := 12) (ci := 3) inXg1 tyX1 tyX1_ok nmX1 o (by omega) (fl_at (i := 0) rfl) rfl 8 (by decide) (lw_g_mk tw_207 rfl) rfl rfl rfl rfl (Nat.le_of_ble_eq_true rfl) dX1_clear_21 (fl_set (i := 0) (L2 := cellsHostel0 cy B o 0 0 0 0) rfl (Nat.le_of_ble_eq_true rfl) rfl) ?_
  refine n_aload_n C dX1_clear_24 rfl 0 rfl ?_
  refine n_bipush C (v := 60) dX1_clear_25 (by decide) ?_
  refine n_put C (C1 := "HostelBeds$Hostel") (T := TX1) (N1 := 12) (ci := 3) inXg1 tyX1 tyX1_ok nmX1 o (by omega) (fl_at (i := 0) rfl) rfl 9 (by decide) (lw_g_mk tw_210 rfl) rfl rfl rfl rfl (Nat.le_of_ble_eq_true rfl) dX1_clear_27 (fl_set (i := 0) (L2 := cellsHostel0 cy B o 0 60 0 0) rfl (Nat.le_of_ble_eq_true rfl) rfl) ?_
  refine n_aload_n C dX1_clear_30 rfl 0 rfl ?_
  refine n_bipush C (v := 7) dX1_clear_31 (by decide) ?_
  refine n_put C (C1 := "HostelBeds$Hostel") (T := TX1) (N1 := 12) (ci := 3) inXg1 tyX1 tyX1_ok nmX1 o (by omega) (fl_at (i := 0) rfl) rfl 10 (by decide) (lw_g_mk tw_214 rfl) rfl rfl rfl rfl (Nat.le_of_ble_eq_true rfl) dX1_clear_33 (fl_set (i := 0) (L2 := cellsHostel0 cy B o 0 60 7 0) rfl (Nat.le_of_ble_eq_true rfl) rfl) ?_
  refine n_aload_n C dX1_clear_36 rfl 0 rfl ?_
  refine n_bipush C (v := 10) dX1_clear_37 (by decide) ?_
  refine n_put C (C1 := "HostelBeds$Hostel") (T := TX1) (N1 := 12) (ci := 3) inXg1 tyX1 tyX1_ok nmX1 o (by omega) (fl_at (i := 0) rfl) rfl 11 (by decide) (lw_g_mk tw_218 rfl) rfl rfl rfl rfl (Nat.le_of_ble_eq_true rfl) dX1_clear_39 (fl_set (i := 0) (L2 := cellsHostel0 cy B o 0 60 7 10) rfl (Nat.le_of_ble_eq_true rfl) rfl) ?_
  exact hret _ _ dX1_clear_42
set_option maxHeartbeats 4000000 in
set_option maxRecDepth 100000 in
theorem okN_Hostel (l : Launch) (cy : Nat → ClassId) (D : va_G) (B : Nat) (ek : EK) (o : Nat) (F : Nat → va_E) (h0 : F o = .inr (3, [.null, .int 0, .int 0, .null, .int 0, .null, .int 0, .null, .int 0, .int 0, .int 0, .int 0])) : CTN l cy D B ek yX1_init cX1_init 2 ({ frames := 2, cells := 29, slots := 299, locals := 41 } : Room) 29 299 [.ref (B + o)] (o + 1) F (o + 30) (fl F o (cellsHostel cy B o)) := by
  refine met_N (own := "HostelBeds$Hostel") (by decide) rfl (Nat.le_of_ble_eq_true rfl) ?_
  intro p e s m args below meth c C hE hB hnm hrT hlk
  have hret : ∀ (pc9 : Nat) (lcs9 : List (Nat × Value)), decode cX1_init pc9 = .ok (.return_, 1) → N p l e ({ frames := 2, cells := 29, slots := 299, locals := 41 } : Room) s m args below meth c 2 D B 29 299 (MQ below (QN D B (o + 30) (fl F o (cellsHostel cy B o))) args s 29 299 (aB B)) pc9 lcs9 [] (o + 30) (fl F o (cellsHostel cy B o)) := fun _ _ hd => n_vret C hrT hlk hd
  generalize (MQ below (QN D B (o + 30) (fl F o (cellsHostel cy B o))) args s 29 299 (aB B)) = Q at hret ⊢
  obtain ⟨R, hR9⟩ : ∃ R : Room, R = ({ frames := 2, cells := 29, slots := 299, locals := 41 } : Room) := ⟨_, rfl⟩
  rw [← hR9] at hret ⊢
  show N p l e R s m args below meth c 2 D B 0 0 Q 0 [(0, .ref (B + o))] [] (o + 1) F
  refine n_ext (fl_one h0) ?_
  refine n_aload_n C dX1_init_0 rfl 0 rfl ?_
  refine n_obj C (lw_g_mk tw_69 rfl) (lw_g_mk tw_32 rfl) (lw_g_mk tw_33 rfl) (by rw [hR9]; exact Nat.le_of_ble_eq_true rfl) (by rw [hR9]; exact Nat.le_of_ble_eq_true rfl) dX1_init_1 ?_
  refine n_aload_n C dX1_init_4 rfl 0 rfl ?_
  refine n_bipush C (v := 8) dX1_init_5 (by decide) ?_
  refine n_newq C (C1 := "HostelBeds$Room") (lw_g_mk tw_70 rfl) hE.1 (ra_obj (C.2.2.2.2.2.1.2 5 _ rfl).2) (z := 8) (by decide) (by decide) (Nat.le_of_ble_eq_true rfl) (by omega) (by rw [hR9]; exact Nat.le_of_ble_eq_true rfl) (by rw [hR9]; exact Nat.le_of_ble_eq_true rfl) dX1_init_7 (fl_push (L2 := [.inr (3, [.null, .int 0, .int 0, .null, .int 0, .null, .int 0, .null, .int 0, .int 0, .int 0, .int 0]), .inl (cy 5, 8, .inr (.inr (.inr (.inr (fun _ => none)))))]) rfl rfl) ?_
  refine n_putF C (C1 := "HostelBeds$Hostel") (T := TX1) (N1 := 12) (ci := 3) inXg1 tyX1 tyX1_ok nmX1 (o) (by omega) (fl_at (i := 0) rfl) rfl 0 (by decide) (lw_g_mk tw_182 rfl) rfl hnm rfl rfl rfl rfl (Nat.le_of_ble_eq_true rfl) dX1_init_10 (fl_set (i := 0) (L2 := [.inr (3, [.ref (B + (o + 1)), .int 0, .int 0, .null, .int 0, .null, .int 0, .null, .int 0, .int 0, .int 0, .int 0]), .inl (cy 5, 8, .inr (.inr (.inr (.inr (fun _ => none)))))]) rfl (Nat.le_of_ble_eq_true rfl) rfl) ?_
  show N p l e R s m args below meth c 2 D B 1 8 Q 13 [(0, .ref (B + o))] [] (o + 2) (fl F o [.inr (3, [.ref (B + (o + 1)), .int 0, .int 0, .null, .int 0, .null, .int 0, .null, .int 0, .int 0, .int 0, .int 0]), .inl (cy 5, 8, .inr (.inr (.inr (.inr (fun _ => none)))))])
  refine n_aload_n C dX1_init_13 rfl 0 rfl ?_
  refine n_bipush C (v := 17) dX1_init_14 (by decide) ?_
  refine n_newq C (C1 := "HostelBeds$Booking") (lw_g_mk tw_72 rfl) hE.2.1 (ra_obj (C.2.2.2.2.2.1.2 6 _ rfl).2) (z := 17) (by decide) (by decide) (Nat.le_of_ble_eq_true rfl) (by omega) (by rw [hR9]; exact Nat.le_of_ble_eq_true rfl) (by rw [hR9]; exact Nat.le_of_ble_eq_true rfl) dX1_init_16 (fl_push (L2 := [.inr (3, [.ref (B + (o + 1)), .int 0, .int 0, .null, .int 0, .null, .int 0, .null, .int 0, .int 0, .int 0, .int 0]), .inl (cy 5, 8, .inr (.inr (.inr (.inr (fun _ => none))))), .inl (cy 6, 17, .inr (.inr (.inr (.inr (fun _ => none)))))]) rfl rfl) ?_
  refine n_putF C (C1 := "HostelBeds$Hostel") (T := TX1) (N1 := 12) (ci := 3) inXg1 tyX1 tyX1_ok nmX1 (o) (by omega) (fl_at (i := 0) rfl) rfl 3 (by decide) (lw_g_mk tw_193 rfl) rfl hnm rfl rfl rfl rfl (Nat.le_of_ble_eq_true rfl) dX1_init_19 (fl_set (i := 0) (L2 := [.inr (3, [.ref (B + (o + 1)), .int 0, .int 0, .ref (B + (o + 2)), .int 0, .null, .int 0, .null, .int 0, .int 0, .int 0, .int 0]), .inl (cy 5, 8, .inr (.inr (.inr (.inr (fun _ => none))))), .inl (cy 6, 17, .inr (.inr (.inr (.inr (fun _ => none)))))]) rfl (Nat.le_of_ble_eq_true rfl) rfl) ?_
  show N p l e R s m args below meth c 2 D B 2 25 Q 22 [(0, .ref (B + o))] [] (o + 3) (fl F o [.inr (3, [.ref (B + (o + 1)), .int 0, .int 0, .ref (B + (o + 2)), .int 0, .null, .int 0, .null, .int 0, .int 0, .int 0, .int 0]), .inl (cy 5, 8, .inr (.inr (.inr (.inr (fun _ => none))))), .inl (cy 6, 17, .inr (.inr (.inr (.inr (fun _ => none)))))])
  refine n_aload_n C dX1_init_22 rfl 0 rfl ?_
  refine n_bipush C (v := 17) dX1_init_23 (by decide) ?_
  refine n_newa C (atype := .int) (lw_g_mk tw_105 rfl) (C.2.2.2.2.2.1.2 0 _ rfl).2 (z := 17) (a0 := (17, .inl (fun _ => 0))) rfl (by decide) (by decide) (Nat.le_of_ble_eq_true rfl) (by omega) (by rw [hR9]; exact Nat.le_of_ble_eq_true rfl) (by rw [hR9]; exact Nat.le_of_ble_eq_true rfl) dX1_init_25 (fl_push (L2 := [.inr (3, [.ref (B + (o + 1)), .int 0, .int 0, .ref (B + (o + 2)), .int 0, .null, .int 0, .null, .int 0, .int 0, .int 0, .int 0]), .inl (cy 5, 8, .inr (.inr (.inr (.inr (fun _ => none))))), .inl (cy 6, 17, .inr (.inr (.inr (.inr (fun _ => none))))), .inl (cy 0, 17, .inl (fun _ => 0))]) rfl rfl) ?_
  refine n_putF C (C1 := "HostelBeds$Hostel") (T := TX1) (N1 := 12) (ci := 3) inXg1 tyX1 tyX1_ok nmX1 (o) (by omega) (fl_at (i := 0) rfl) rfl 5 (by decide) (lw_g_mk tw_201 rfl) rfl hnm rfl rfl rfl rfl (Nat.le_of_ble_eq_true rfl) dX1_init_27 (fl_set (i := 0) (L2 := [.inr (3, [.ref (B + (o + 1)), .int 0, .int 0, .ref (B + (o + 2)), .int 0, .ref (B + (o + 3)), .int 0, .null, .int 0, .int 0, .int 0, .int 0]), .inl (cy 5, 8, .inr (.inr (.inr (.inr (fun _ => none))))), .inl (cy 6, 17, .inr (.inr (.inr (.inr (fun _ => none))))), .inl (cy 0, 17, .inl (fun _ => 0))]) rfl (Nat.le_of_ble_eq_true rfl) rfl) ?_
  show N p l e R s m args below meth c 2 D B 3 42 Q 30 [(0, .ref (B + o))] [] (o + 4) (fl F o [.inr (3, [.ref (B + (o + 1)), .int 0, .int 0, .ref (B + (o + 2)), .int 0, .ref (B + (o + 3)), .int 0, .null, .int 0, .int 0, .int 0, .int 0]), .inl (cy 5, 8, .inr (.inr (.inr (.inr (fun _ => none))))), .inl (cy 6, 17, .inr (.inr (.inr (.inr (fun _ => none))))), .inl (cy 0, 17, .inl (fun _ => 0))])
  refine n_aload_n C dX1_init_30 rfl 0 rfl ?_
  refine n_bipush C (v := 30) dX1_init_31 (by decide) ?_
  refine n_newa C (atype := .int) (lw_g_mk tw_105 rfl) (C.2.2.2.2.2.1.2 0 _ rfl).2 (z := 30) (a0 := (30, .inl (fun _ => 0))) rfl (by decide) (by decide) (Nat.le_of_ble_eq_true rfl) (by omega) (by rw [hR9]; exact Nat.le_of_ble_eq_true rfl) (by rw [hR9]; exact Nat.le_of_ble_eq_true rfl) dX1_init_33 (fl_push (L2 := [.inr (3, [.ref (B + (o + 1)), .int 0, .int 0, .ref (B + (o + 2)), .int 0, .ref (B + (o + 3)), .int 0, .null, .int 0, .int 0, .int 0, .int 0]), .inl (cy 5, 8, .inr (.inr (.inr (.inr (fun _ => none))))), .inl (cy 6, 17, .inr (.inr (.inr (.inr (fun _ => none))))), .inl (cy 0, 17, .inl (fun _ => 0)), .inl (cy 0, 30, .inl (fun _ => 0))]) rfl rfl) ?_
  refine n_putF C (C1 := "HostelBeds$Hostel") (T := TX1) (N1 := 12) (ci := 3) inXg1 tyX1 tyX1_ok nmX1 (o) (by omega) (fl_at (i := 0) rfl) rfl 7 (by decide) (lw_g_mk tw_205 rfl) rfl hnm rfl rfl rfl rfl (Nat.le_of_ble_eq_true rfl) dX1_init_35 (fl_set (i := 0) (L2 := [.inr (3, [.ref (B + (o + 1)), .int 0, .int 0, .ref (B + (o + 2)), .int 0, .ref (B + (o + 3)), .int 0, .ref (B + (o + 4)), .int 0, .int 0, .int 0, .int 0]), .inl (cy 5, 8, .inr (.inr (.inr (.inr (fun _ => none))))), .inl (cy 6, 17, .inr (.inr (.inr (.inr (fun _ => none))))), .inl (cy 0, 17, .inl (fun _ => 0)), .inl (cy 0, 30, .inl (fun _ => 0))]) rfl (Nat.le_of_ble_eq_true rfl) rfl) ?_
  show N p l e R s m args below meth c 2 D B 4 72 Q 38 [(0, .ref (B + o))] [] (o + 5) (fl F o [.inr (3, [.ref (B + (o + 1)), .int 0, .int 0, .ref (B + (o + 2)), .int 0, .ref (B + (o + 3)), .int 0, .ref (B + (o + 4)), .int 0, .int 0, .int 0, .int 0]), .inl (cy 5, 8, .inr (.inr (.inr (.inr (fun _ => none))))), .inl (cy 6, 17, .inr (.inr (.inr (.inr (fun _ => none))))), .inl (cy 0, 17, .inl (fun _ => 0)), .inl (cy 0, 30, .inl (fun _ => 0))])
  refine n_iconst C (v := 0) dX1_init_38 (by decide) ?_
  refine n_istore_n C [(1, .int 0), (0, .ref (B + o))] dX1_init_39 rfl (by decide) rfl ?_
  show N p l e R s m args below meth c 2 D B 4 72 Q 40 [(1, .int 0), (0, .ref (B + o))] [] (o + 5) (fl F o (rowH cy B o (objH B o 0 0 0 0) (fun _ => none) (fun _ => none) 0 0))
  have htail : N p l e R s m args below meth c 2 D B 29 299 Q 98 [(0, .ref (B + o)), (1, .int (nI 17))] [] (o + 30) (fl F o (rowH cy B o (objH B o 0 0 0 0) (fun k => some (B + (o + 5 + k))) (upto (B + (o + 13)) 17) 8 17)) := by
    refine n_exq (F' := fl F o (cellsHostel0 cy B o 0 0 0 0)) (fl_exq 2 rfl rfl (fun a H h => at_refs (fun k hk => upto_ap _ _ _ k hk) h)) ?_
    refine n_aload_n C dX1_init_98 rfl 0 rfl ?_
    refine n_callV C (rest := []) (lw_g_mk tw_174 rfl) (lw_g_mk tw_176 rfl) (fl_at (i := 0) rfl) (by omega) (C1 := "HostelBeds$Hostel") (T := TX1) (N1 := 12) (ci := 3) rfl hE (okN_clear l cy D B ek o F) rfl rfl (by rw [hR9]; exact ⟨Nat.le_of_ble_eq_true rfl, Nat.le_of_ble_eq_true rfl⟩) (lw_g_mk tw_177 rfl) (lw_g_mk tw_3 rfl) (by decide) rfl (lw_g_mk tw_175 rfl) rfl (Nat.le_of_ble_eq_true rfl) (by omega) dX1_init_99 (by rw [hR9]; exact ⟨Nat.le_of_ble_eq_true rfl, Nat.le_of_ble_eq_true rfl⟩) (F' := (fl F o (cellsHostel cy B o))) (fun _ _ => rfl) ?_
    exact hret _ _ dX1_init_102
  have hloopB : ∀ (k i : Nat), i + k = 17 → N p l e R s m args below meth c 2 D B (12 + i) (112 + 11 * i) Q 70 [(0, .ref (B + o)), (1, .int (nI i))] [] (o + 13 + i) (fl F o (rowH cy B o (objH B o 0 0 0 0) (fun k => some (B + (o + 5 + k))) (upto (B + (o + 13)) i) 8 i)) := by
    intro k
    induction k with
    | zero =>
      intro i hi
      refine n_iload_n C dX1_init_70 rfl 1 rfl ?_
      refine n_aload_n C dX1_init_71 rfl 0 rfl ?_
      refine n_get C (C1 := "HostelBeds$Hostel") (T := TX1) (N1 := 12) (ci := 3) inXg1 o (by omega) (fl_at (i := 0) rfl) rfl 3 (by decide) (lw_g_mk tw_193 rfl) rfl dX1_init_72 ?_
      refine n_alen C (o + 2) 6 (by omega) (fl_at (i := 2) rfl) rfl (v := 17) rfl dX1_init_75 ?_
      refine n_icmp_ge C (tgt := 98) dX1_init_76 (by decide) (fun hc => ?_) (fun hc => ?_)
      · obtain rfl : i = 17 := by omega
        exact htail
      · exact absurd (nI_go (b := 17) (by decide) rfl (by omega) hc) (by omega)
    | succ k ih =>
      intro i hi
      refine n_iload_n C dX1_init_70 rfl 1 rfl ?_
      refine n_aload_n C dX1_init_71 rfl 0 rfl ?_
      refine n_get C (C1 := "HostelBeds$Hostel") (T := TX1) (N1 := 12) (ci := 3) inXg1 o (by omega) (fl_at (i := 0) rfl) rfl 3 (by decide) (lw_g_mk tw_193 rfl) rfl dX1_init_72 ?_
      refine n_alen C (o + 2) 6 (by omega) (fl_at (i := 2) rfl) rfl (v := 17) rfl dX1_init_75 ?_
      refine n_icmp_ge C (tgt := 98) dX1_init_76 (by decide) (fun hc => ?_) (fun hc => ?_)
      · exact absurd (nI_end17 i (by omega) hc) (by omega)
      · refine n_aload_n C dX1_init_79 rfl 0 rfl ?_
        refine n_get C (C1 := "HostelBeds$Hostel") (T := TX1) (N1 := 12) (ci := 3) inXg1 o (by omega) (fl_at (i := 0) rfl) rfl 3 (by decide) (lw_g_mk tw_193 rfl) rfl dX1_init_80 ?_
        refine n_iload_n C dX1_init_83 rfl 1 rfl ?_
        refine n_new C (C1 := "HostelBeds$Booking") (T := TX0) (N1 := 11) (ci := 2) inXg0 tyX0 tyX0_ok (lw_g_mk tw_72 rfl) (lw_g_mk tw_106 rfl) (lw_g_mk tw_5 rfl) rfl (fs := [.long 0, .int 0, .int 0, .int 0, .int 0, .int 0, .int 0, .int 0, .int 0, .int 0, .int 0]) (fun j hj => by match j, hj with | 0, _ => rfl | 1, _ => rfl | 2, _ => rfl | 3, _ => rfl | 4, _ => rfl | 5, _ => rfl | 6, _ => rfl | 7, _ => rfl | 8, _ => rfl | 9, _ => rfl | 10, _ => rfl | (q + 11), hq => exact absurd hq (by omega)) (by omega) (by rw [hR9]; show _ ≤ 29; omega) (by rw [hR9]; show _ ≤ 299; omega) dX1_init_84 (fl_push (L2 := (rowH cy B o (objH B o 0 0 0 0) (fun k => some (B + (o + 5 + k))) (upto (B + (o + 13)) i) 8 i) ++ [.inr (2, [.long 0, .int 0, .int 0, .int 0, .int 0, .int 0, .int 0, .int 0, .int 0, .int 0, .int 0])]) (by rw [rowH_len]; omega) rfl) ?_
        rw [rowH_bk]
        refine n_dup C dX1_init_87 rfl ?_
        refine n_callN C (host := "HostelBeds") (hE.2.2.2 _ (by simp [nstL])) rfl hE (okN_Booking l cy D B ek (o + 13 + i) _) rfl rfl (by rw [hR9]; exact ⟨Nat.le_of_ble_eq_true rfl, Nat.le_of_ble_eq_true rfl⟩) (lw_g_mk tw_109 rfl) (lw_g_mk tw_5 rfl) (by decide) rfl (lw_g_mk tw_108 rfl) rfl (Nat.le_of_ble_eq_true rfl) (by omega) dX1_init_88 (by rw [hR9]; exact ⟨by show _ ≤ 29; omega, by show _ ≤ 299; omega⟩) (fun _ _ => rfl) ?_
        refine n_astq C (o + 2) 6 (o + 13 + i) 2 (by omega) (by omega) (fl_at (i := 2) rfl) rfl (r := (RX0, TX0, 11)) (vs := [.long 0, .int 0, .int 0, .int 0, .int 0, .int 0, .int 0, .int 0, .int 0, .int 0, .int 0]) ?_ rfl (nI_in (by omega) (by decide)) dX1_init_91 (F' := fl F o (rowH cy B o (objH B o 0 0 0 0) (fun k => some (B + (o + 5 + k))) (upto (B + (o + 13)) (i + 1)) 8 (i + 1))) ?_ ?_
        · rw [show o + 13 + i = o + (13 + i) by omega]
          rw [← rowH_bk]
          exact fl_at (get_last (by rw [rowH_len] <;> omega))
        · rw [nI_clamp (by omega), upto_up (by omega)]
          exact fl_set (i := 2) rfl (by rw [rowH_len]; omega) rfl
        · refine n_iinc C (k := 1) [(1, .int (nI (i + 1))), (0, .ref (B + o))] dX1_init_92 rfl (by rw [nI_succ]; rfl) (by decide) rfl ?_
          refine n_goto C (tgt := 70) dX1_init_95 (by decide) ?_
          refine n_sub [1, 0] rfl ?_
          refine n_widen (k := 12 + (i + 1)) (z := 112 + 11 * (i + 1)) (by omega) (by omega) ?_
          exact ih (i + 1) (by omega)
  have hmid : N p l e R s m args below meth c 2 D B 12 112 Q 68 [(0, .ref (B + o)), (1, .int (nI 8))] [] (o + 13) (fl F o (rowH cy B o (objH B o 0 0 0 0) (upto (B + (o + 5)) 8) (fun _ => none) 8 0)) := by
    refine n_exq (F' := fl F o (rowH cy B o (objH B o 0 0 0 0) (fun k => some (B + (o + 5 + k))) (upto (B + (o + 13)) 0) 8 0)) (fl_exq 1 rfl (by rw [upto_0]; rfl) (fun a H h => at_refs (fun k hk => upto_ap _ _ _ k hk) h)) ?_
    refine n_iconst C (v := 0) dX1_init_68 (by decide) ?_
    refine n_istore_n C [(1, .int 0), (0, .ref (B + o))] dX1_init_69 rfl (by decide) rfl ?_
    refine n_sub [1, 0] rfl ?_
    exact hloopB 17 0 rfl
  have hloopA : ∀ (k i : Nat), i + k = 8 → N p l e R s m args below meth c 2 D B (4 + i) (72 + 5 * i) Q 40 [(0, .ref (B + o)), (1, .int (nI i))] [] (o + 5 + i) (fl F o (rowH cy B o (objH B o 0 0 0 0) (upto (B + (o + 5)) i) (fun _ => none) i 0)) := by
    intro k
    induction k with
    | zero =>
      intro i hi
      refine n_iload_n C dX1_init_40 rfl 1 rfl ?_
      refine n_aload_n C dX1_init_41 rfl 0 rfl ?_
      refine n_get C (C1 := "HostelBeds$Hostel") (T := TX1) (N1 := 12) (ci := 3) inXg1 o (by omega) (fl_at (i := 0) rfl) rfl 0 (by decide) (lw_g_mk tw_182 rfl) rfl dX1_init_42 ?_
      refine n_alen C (o + 1) 5 (by omega) (fl_at (i := 1) rfl) rfl (v := 8) rfl dX1_init_45 ?_
      refine n_icmp_ge C (tgt := 68) dX1_init_46 (by decide) (fun hc => ?_) (fun hc => ?_)
      · obtain rfl : i = 8 := by omega
        exact hmid
      · exact absurd (nI_go (b := 8) (by decide) rfl (by omega) hc) (by omega)
    | succ k ih =>
      intro i hi
      refine n_iload_n C dX1_init_40 rfl 1 rfl ?_
      refine n_aload_n C dX1_init_41 rfl 0 rfl ?_
      refine n_get C (C1 := "HostelBeds$Hostel") (T := TX1) (N1 := 12) (ci := 3) inXg1 o (by omega) (fl_at (i := 0) rfl) rfl 0 (by decide) (lw_g_mk tw_182 rfl) rfl dX1_init_42 ?_
      refine n_alen C (o + 1) 5 (by omega) (fl_at (i := 1) rfl) rfl (v := 8) rfl dX1_init_45 ?_
      refine n_icmp_ge C (tgt := 68) dX1_init_46 (by decide) (fun hc => ?_) (fun hc => ?_)
      · exact absurd (nI_end8 i (by omega) hc) (by omega)
      · refine n_aload_n C dX1_init_49 rfl 0 rfl ?_
        refine n_get C (C1 := "HostelBeds$Hostel") (T := TX1) (N1 := 12) (ci := 3) inXg1 o (by omega) (fl_at (i := 0) rfl) rfl 0 (by decide) (lw_g_mk tw_182 rfl) rfl dX1_init_50 ?_
        refine n_iload_n C dX1_init_53 rfl 1 rfl ?_
        refine n_new C (C1 := "HostelBeds$Room") (T := TX4) (N1 := 5) (ci := 6) inXg4 tyX4 tyX4_ok (lw_g_mk tw_70 rfl) (lw_g_mk tw_74 rfl) (lw_g_mk tw_4 rfl) rfl (fs := [.long 0, .int 0, .int 0, .int 0, .int 0]) (fun j hj => by match j, hj with | 0, _ => rfl | 1, _ => rfl | 2, _ => rfl | 3, _ => rfl | 4, _ => rfl | (q + 5), hq => exact absurd hq (by omega)) (by omega) (by rw [hR9]; show _ ≤ 29; omega) (by rw [hR9]; show _ ≤ 299; omega) dX1_init_54 (fl_push (L2 := (rowH cy B o (objH B o 0 0 0 0) (upto (B + (o + 5)) i) (fun _ => none) i 0) ++ [.inr (6, [.long 0, .int 0, .int 0, .int 0, .int 0])]) (by rw [rowH_len]; omega) rfl) ?_
        rw [rowH_room]
        refine n_dup C dX1_init_57 rfl ?_
        refine n_callN C (host := "HostelBeds") (hE.2.2.2 _ (by simp [nstL])) rfl hE (okN_Room l cy D B ek (o + 5 + i) _) rfl rfl (by rw [hR9]; exact ⟨Nat.le_of_ble_eq_true rfl, Nat.le_of_ble_eq_true rfl⟩) (lw_g_mk tw_77 rfl) (lw_g_mk tw_4 rfl) (by decide) rfl (lw_g_mk tw_76 rfl) rfl (Nat.le_of_ble_eq_true rfl) (by omega) dX1_init_58 (by rw [hR9]; exact ⟨by show _ ≤ 29; omega, by show _ ≤ 299; omega⟩) (fun _ _ => rfl) ?_
        refine n_astq C (o + 1) 5 (o + 5 + i) 6 (by omega) (by omega) (fl_at (i := 1) rfl) rfl (r := (RX4, TX4, 5)) (vs := [.long 0, .int 0, .int 0, .int 0, .int 0]) ?_ rfl (nI_in (by omega) (by decide)) dX1_init_61 (F' := fl F o (rowH cy B o (objH B o 0 0 0 0) (upto (B + (o + 5)) (i + 1)) (fun _ => none) (i + 1) 0)) ?_ ?_
        · rw [show o + 5 + i = o + (5 + i) by omega]
          rw [← rowH_room]
          exact fl_at (get_last (by rw [rowH_len] <;> omega))
        · rw [nI_clamp (by omega), upto_up (by omega)]
          exact fl_set (i := 1) rfl (by rw [rowH_len]; omega) rfl
        · refine n_iinc C (k := 1) [(1, .int (nI (i + 1))), (0, .ref (B + o))] dX1_init_62 rfl (by rw [nI_succ]; rfl) (by decide) rfl ?_
          refine n_goto C (tgt := 40) dX1_init_65 (by decide) ?_
          refine n_sub [1, 0] rfl ?_
          refine n_widen (k := 4 + (i + 1)) (z := 72 + 5 * (i + 1)) (by omega) (by omega) ?_
          exact ih (i + 1) (by omega)
  refine n_sub [1, 0] rfl ?_
  have h9 := hloopA 8 0 rfl
  rw [upto_0] at h9
  exact h9
