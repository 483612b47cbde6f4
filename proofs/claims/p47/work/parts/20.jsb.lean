theorem met_XEN {l : Launch} {y : MethodName} {b : ByteArray} {n : Nat} {r : Option FieldType} {rm : Room} {mc ms : Nat} {av : List Value} {cy : Nat → ClassId} {D : va_G} {B : Nat} {ek : EK} {own : String} {σ : Mem} {Y : va_W} {P : Option Value → Mem → va_W → Prop} (hy : plainName y.cls = true) (hown : y.cls = own) (hlen : (lg_sl av).length ≤ n)
    (body : ∀ p e s m args below meth c, Cx p s m args c n cy D B ek own b → meth.sig.returnType = r → meth.locks = false → meth.name = y.name → X p l e rm s m args below meth c n cy D B 0 0 (MQ below (QE cy D B P) args s mc ms (aB B)) 0 (lv_args 0 av) [] σ Y) : CTE l cy D B ek y b n r rm mc ms av σ Y P := by
  refine Met.ofW (cc := b) (maxL := n) (ret := r) hy rfl ?_
  intro p e s m args below meth c s₁ Bd hml hv
  obtain ⟨rfl, hP, hK, hB, hE⟩ := hv
  have hts : ∀ w ∈ lw_g, w.before av.toArray s = true := fun w hw => atoms_spec (ws := wsA y b n r) Bd.pre w (List.mem_cons_of_mem _ hw)
  have hown9 : s.vm.findClass own = some m.cls := hown ▸ findClass_of_methodNamed Bd.named
  have k := body p e s m av.toArray below meth c ⟨Bd.exec, Bd.bytes, hml, hown9, hts, hK, hB, hE⟩ Bd.returns Bd.notSynchronized (name_of_methodNamed Bd.named Bd.method).1
  have hl := lv_entry av (n := n) hlen
  rw [lg_entry_eq]
  exact k s.heap [] _ hP va_S.rf hl
theorem ks_lt {i : Int32} (h : inb i 3) : i.toNatClampNeg + 1 < 18 := by have := inb_lt h; omega
def jJ8_newLength_cabcc_21 : Option (Int32) := none
def fJ8_newLength_cabcc (p1 : Int32) (p2 : Int32) (p3 : Int32) : Option (Int32) := (if (p1 + (if p2 < p3 then p3 else p2)) ≤ (0 : Int32) then (jJ8_newLength_cabcc_21) else (if (2147483639 : Int32) < (p1 + (if p2 < p3 then p3 else p2)) then (jJ8_newLength_cabcc_21) else (some (p1 + (if p2 < p3 then p3 else p2)))))
set_option maxHeartbeats 4000000 in
set_option maxRecDepth 100000 in
theorem okJ8_newLength_cabcc (l : Launch) (cy : Nat → ClassId) (D : va_G) (B : Nat) (ek : EK) (p1 : Int32) (p2 : Int32) (p3 : Int32) (σ : Mem) (Y : va_W) (res : Int32) (h : fJ8_newLength_cabcc p1 p2 p3 = some res) : CT l cy D B ek yJ8_newLength_cabcc cJ8_newLength_cabcc 4 (some .int) ({ frames := 6, cells := 0, slots := 0, locals := 120 } : Room) [.int p1, .int p2, .int p3] σ Y (some (.int res)) σ Y := by
  refine met_X (own := "jdk/internal/util/ArraysSupport") (by decide) rfl (Nat.le_of_ble_eq_true rfl) ?_
  intro p e s m args below meth c C hrT hlk
  have hret : ∀ (pc9 : Nat) (lcs9 : List (Nat × Value)), decode cJ8_newLength_cabcc pc9 = .ok (.ireturn, 1) → narrow .int (.int res) = .int res → X p l e ({ frames := 6, cells := 0, slots := 0, locals := 120 } : Room) s m args below meth c 4 cy D B 0 0 (MQ below (QR cy D B (some (.int res)) σ Y) args s 0 0 (aB B)) pc9 lcs9 [.int res] σ Y := fun _ _ hd hn => x_zret C hrT hlk hn hd
  generalize (MQ below (QR cy D B (some (.int res)) σ Y) args s 0 0 (aB B)) = Q at hret ⊢
  obtain ⟨R, hR9⟩ : ∃ R : Room, R = ({ frames := 6, cells := 0, slots := 0, locals := 120 } : Room) := ⟨_, rfl⟩
  rw [← hR9] at hret ⊢
  unfold fJ8_newLength_cabcc at h
  show X p l e R s m args below meth c 4 cy D B 0 0 Q 0 [(0, .int p1), (1, .int p2), (2, .int p3)] [] σ Y
  refine x_iload_n C dJ8_newLength_cabcc_0 rfl 0 rfl ?_
  refine x_iload_n C dJ8_newLength_cabcc_1 rfl 1 rfl ?_
  refine x_iload_n C dJ8_newLength_cabcc_2 rfl 2 rfl ?_
  refine x_mmax C (lw_g_mk tw_834 rfl) (lw_g_mk tw_744 rfl) (lw_g_mk tw_16 rfl) (lw_g_mk tw_745 rfl) (by rw [hR9]; decide) (by rw [hR9]; exact Nat.le_of_ble_eq_true rfl) (by rw [hR9]; decide) dJ8_newLength_cabcc_3 ?_
  refine x_iadd C dJ8_newLength_cabcc_6 ?_
  refine x_istore_n C [(3, .int (p1 + (if p2 < p3 then p3 else p2))), (0, .int p1), (1, .int p2), (2, .int p3)] dJ8_newLength_cabcc_7 rfl (by decide) rfl ?_
  refine x_iconst C (v := 0) dJ8_newLength_cabcc_8 (by decide) ?_
  refine x_iload_n C dJ8_newLength_cabcc_9 rfl 0 rfl ?_
  have hJ1 : ∀ (r9 : Int32), jJ8_newLength_cabcc_21 = some r9 → (∀ (pc9 : Nat) (lcs9 : List (Nat × Value)), decode cJ8_newLength_cabcc pc9 = .ok (.ireturn, 1) → narrow .int (.int r9) = .int r9 → X p l e R s m args below meth c 4 cy D B 0 0 Q pc9 lcs9 [.int r9] σ Y) → X p l e R s m args below meth c 4 cy D B 0 0 Q 21 [(0, .int p1), (1, .int p2)] [] σ Y := by
    intro res9 h hret
    unfold jJ8_newLength_cabcc_21 at h
    refine x_iload_n C dJ8_newLength_cabcc_21 rfl 0 rfl ?_
    refine x_iload_n C dJ8_newLength_cabcc_22 rfl 1 rfl ?_
    cases h
  refine x_icmp_ge C (tgt := 21) dJ8_newLength_cabcc_10 (by decide) (fun hc2 => ?_) (fun hc2 => ?_)
  · rw [if_pos hc2] at h
    refine x_sub [1, 2] rfl ?_
    exact hJ1 _ h hret
  · rw [if_neg hc2] at h
    refine x_iload_n C dJ8_newLength_cabcc_13 rfl 0 rfl ?_
    refine x_ldc C (v := 2147483639) (lw_g_mk tw_835 rfl) dJ8_newLength_cabcc_14 ?_
    refine x_icmp_gt C (tgt := 21) dJ8_newLength_cabcc_16 (by decide) (fun hc3 => ?_) (fun hc3 => ?_)
    · rw [if_pos hc3] at h
      refine x_sub [1, 2] rfl ?_
      exact hJ1 _ h hret
    · rw [if_neg hc3] at h
      refine x_iload_n C dJ8_newLength_cabcc_19 rfl 0 rfl ?_
      cases h
      exact hret _ _ dJ8_newLength_cabcc_20 rfl
def fJ1_canEncode_fc78d (p1 : Int32) : Option (Int32) := (if (255 : Int32) < p1 then (some ((0 : Int32))) else (some ((1 : Int32))))
set_option maxHeartbeats 4000000 in
set_option maxRecDepth 100000 in
theorem okJ1_canEncode_fc78d (l : Launch) (cy : Nat → ClassId) (D : va_G) (B : Nat) (ek : EK) (p1 : Int32) (σ : Mem) (Y : va_W) (res : Int32) (h : fJ1_canEncode_fc78d p1 = some res) : CT l cy D B ek yJ1_canEncode_fc78d cJ1_canEncode_fc78d 1 (some .boolean) ({ frames := 0, cells := 0, slots := 0, locals := 0 } : Room) [.int p1] σ Y (some (.int res)) σ Y := by
  refine met_X (own := "java/lang/StringLatin1") (by decide) rfl (Nat.le_of_ble_eq_true rfl) ?_
  intro p e s m args below meth c C hrT hlk
  have hret : ∀ (pc9 : Nat) (lcs9 : List (Nat × Value)), decode cJ1_canEncode_fc78d pc9 = .ok (.ireturn, 1) → narrow .boolean (.int res) = .int res → X p l e ({ frames := 0, cells := 0, slots := 0, locals := 0 } : Room) s m args below meth c 1 cy D B 0 0 (MQ below (QR cy D B (some (.int res)) σ Y) args s 0 0 (aB B)) pc9 lcs9 [.int res] σ Y := fun _ _ hd hn => x_zret C hrT hlk hn hd
  generalize (MQ below (QR cy D B (some (.int res)) σ Y) args s 0 0 (aB B)) = Q at hret ⊢
  obtain ⟨R, hR9⟩ : ∃ R : Room, R = ({ frames := 0, cells := 0, slots := 0, locals := 0 } : Room) := ⟨_, rfl⟩
  rw [← hR9] at hret ⊢
  unfold fJ1_canEncode_fc78d at h
  show X p l e R s m args below meth c 1 cy D B 0 0 Q 0 [(0, .int p1)] [] σ Y
  refine x_iload_n C dJ1_canEncode_fc78d_0 rfl 0 rfl ?_
  refine x_sipush C (v := 255) dJ1_canEncode_fc78d_1 (by decide) ?_
  refine x_icmp_gt C (tgt := 11) dJ1_canEncode_fc78d_4 (by decide) (fun hc1 => ?_) (fun hc1 => ?_)
  · rw [if_pos hc1] at h
    refine x_iconst C (v := 0) dJ1_canEncode_fc78d_11 (by decide) ?_
    cases h
    exact hret _ _ dJ1_canEncode_fc78d_12 (nar_Z (Or.inl rfl))
  · rw [if_neg hc1] at h
    refine x_iconst C (v := 1) dJ1_canEncode_fc78d_7 (by decide) ?_
    refine x_goto C (tgt := 12) dJ1_canEncode_fc78d_8 (by decide) ?_
    cases h
    exact hret _ _ dJ1_canEncode_fc78d_12 (nar_Z (Or.inr rfl))
def stJ6_stringSize_0f7a4_16 (x1 : Int32) (x2 : Int32) (a16 : Int32 × Int32) : Option ((Int32 × Int32) ⊕ ((Unit) ⊕ (Int32))) := (if (10 : Int32) ≤ a16.2 then (some (.inr (.inl ()))) else (if x1 ≤ a16.1 then (some (.inl ((10 : Int32) * a16.1, a16.2 + (1 : Int32)))) else (some (.inr (.inr (a16.2 + x2))))))
def jJ6_stringSize_0f7a4_11 (x1 : Int32) (x2 : Int32) : Option (Int32) := ((loop (stJ6_stringSize_0f7a4_16 x1 x2) 5000 ((-10 : Int32), (1 : Int32))).bind fun b16 => Sum.elim (fun z16 => (some ((10 : Int32) + x2))) (fun w16 => (some w16)) b16)
def fJ6_stringSize_0f7a4 (p1 : Int32) : Option (Int32) := (if p1 < 0 then (jJ6_stringSize_0f7a4_11 p1 (1 : Int32)) else (jJ6_stringSize_0f7a4_11 (-p1) (0 : Int32)))
set_option maxHeartbeats 4000000 in
set_option maxRecDepth 100000 in
theorem okJ6_stringSize_0f7a4 (l : Launch) (cy : Nat → ClassId) (D : va_G) (B : Nat) (ek : EK) (p1 : Int32) (σ : Mem) (Y : va_W) (res : Int32) (h : fJ6_stringSize_0f7a4 p1 = some res) : CT l cy D B ek yJ6_stringSize_0f7a4 cJ6_stringSize_0f7a4 4 (some .int) ({ frames := 0, cells := 0, slots := 0, locals := 0 } : Room) [.int p1] σ Y (some (.int res)) σ Y := by
  refine met_X (own := "java/lang/Integer") (by decide) rfl (Nat.le_of_ble_eq_true rfl) ?_
  intro p e s m args below meth c C hrT hlk
  have hret : ∀ (pc9 : Nat) (lcs9 : List (Nat × Value)), decode cJ6_stringSize_0f7a4 pc9 = .ok (.ireturn, 1) → narrow .int (.int res) = .int res → X p l e ({ frames := 0, cells := 0, slots := 0, locals := 0 } : Room) s m args below meth c 4 cy D B 0 0 (MQ below (QR cy D B (some (.int res)) σ Y) args s 0 0 (aB B)) pc9 lcs9 [.int res] σ Y := fun _ _ hd hn => x_zret C hrT hlk hn hd
  generalize (MQ below (QR cy D B (some (.int res)) σ Y) args s 0 0 (aB B)) = Q at hret ⊢
  obtain ⟨R, hR9⟩ : ∃ R : Room, R = ({ frames := 0, cells := 0, slots := 0, locals := 0 } : Room) := ⟨_, rfl⟩
  rw [← hR9] at hret ⊢
  unfold fJ6_stringSize_0f7a4 at h
  show X p l e R s m args below meth c 4 cy D B 0 0 Q 0 [(0, .int p1)] [] σ Y
  refine x_iconst C (v := 1) dJ6_stringSize_0f7a4_0 (by decide) ?_
  refine x_istore_n C [(1, .int (1 : Int32)), (0, .int p1)] dJ6_stringSize_0f7a4_1 rfl (by decide) rfl ?_
  refine x_iload_n C dJ6_stringSize_0f7a4_2 rfl 1 rfl ?_
  have hJ6 : ∀ (x1 : Int32) (x2 : Int32) (r9 : Int32), jJ6_stringSize_0f7a4_11 x1 x2 = some r9 → (∀ (pc9 : Nat) (lcs9 : List (Nat × Value)), decode cJ6_stringSize_0f7a4 pc9 = .ok (.ireturn, 1) → narrow .int (.int r9) = .int r9 → X p l e R s m args below meth c 4 cy D B 0 0 Q pc9 lcs9 [.int r9] σ Y) → X p l e R s m args below meth c 4 cy D B 0 0 Q 11 [(0, .int x1), (1, .int x2)] [] σ Y := by
    intro x1 x2 res9 h hret
    unfold jJ6_stringSize_0f7a4_11 at h
    refine x_bipush C (v := -10) dJ6_stringSize_0f7a4_11 (by decide) ?_
    refine x_istore_n C [(2, .int (-10 : Int32)), (0, .int x1), (1, .int x2)] dJ6_stringSize_0f7a4_13 rfl (by decide) rfl ?_
    refine x_iconst C (v := 1) dJ6_stringSize_0f7a4_14 (by decide) ?_
    refine x_istore_n C [(3, .int (1 : Int32)), (2, .int (-10 : Int32)), (0, .int x1), (1, .int x2)] dJ6_stringSize_0f7a4_15 rfl (by decide) rfl ?_
    obtain ⟨b16, hk5, h⟩ := Option.bind_eq_some_iff.mp h
    refine x_sub [2, 3, 1, 0] rfl ?_
    refine loop_run (step := stJ6_stringSize_0f7a4_16 x1 x2) (P := fun (a16 : Int32 × Int32) => X p l e R s m args below meth c 4 cy D B 0 0 Q 16 [(0, .int x1), (1, .int x2), (2, .int a16.1), (3, .int a16.2)] [] σ Y) (K := fun (b16 : (Unit) ⊕ (Int32)) => Sum.elim (fun z16 => X p l e R s m args below meth c 4 cy D B 0 0 Q 42 [(1, .int x2)] [] σ Y) (fun w16 => ∀ (pc9 : Nat) (lcs9 : List (Nat × Value)), decode cJ6_stringSize_0f7a4 pc9 = .ok (.ireturn, 1) → narrow .int (.int w16) = .int w16 → X p l e R s m args below meth c 4 cy D B 0 0 Q pc9 lcs9 [.int w16] σ Y) b16) ?_ 5000 ((-10 : Int32), (1 : Int32)) b16 hk5 ?_
    · intro a16 r h hA1 hB2
      unfold stJ6_stringSize_0f7a4_16 at h
      refine x_iload_n C dJ6_stringSize_0f7a4_16 rfl 3 rfl ?_
      refine x_bipush C (v := 10) dJ6_stringSize_0f7a4_17 (by decide) ?_
      refine x_icmp_ge C (tgt := 42) dJ6_stringSize_0f7a4_19 (by decide) (fun hc3 => ?_) (fun hc3 => ?_)
      · rw [if_pos hc3] at h
        cases h
        refine x_sub [1] rfl ?_
        exact hB2 (.inl ()) rfl
      · rw [if_neg hc3] at h
        refine x_iload_n C dJ6_stringSize_0f7a4_22 rfl 0 rfl ?_
        refine x_iload_n C dJ6_stringSize_0f7a4_23 rfl 2 rfl ?_
        refine x_icmp_le C (tgt := 31) dJ6_stringSize_0f7a4_24 (by decide) (fun hc4 => ?_) (fun hc4 => ?_)
        · rw [if_pos hc4] at h
          refine x_bipush C (v := 10) dJ6_stringSize_0f7a4_31 (by decide) ?_
          refine x_iload_n C dJ6_stringSize_0f7a4_33 rfl 2 rfl ?_
          refine x_imul C dJ6_stringSize_0f7a4_34 ?_
          refine x_istore_n C [(2, .int ((10 : Int32) * a16.1)), (0, .int x1), (1, .int x2), (3, .int a16.2)] dJ6_stringSize_0f7a4_35 rfl (by decide) rfl ?_
          refine x_iinc C (k := 3) [(3, .int (a16.2 + (1 : Int32))), (2, .int ((10 : Int32) * a16.1)), (0, .int x1), (1, .int x2)] dJ6_stringSize_0f7a4_36 rfl rfl (by decide) rfl ?_
          refine x_goto C (tgt := 16) dJ6_stringSize_0f7a4_39 (by decide) ?_
          cases h
          refine x_sub [2, 3, 1, 0] rfl ?_
          exact hA1 ((10 : Int32) * a16.1, a16.2 + (1 : Int32)) rfl
        · rw [if_neg hc4] at h
          refine x_iload_n C dJ6_stringSize_0f7a4_27 rfl 3 rfl ?_
          refine x_iload_n C dJ6_stringSize_0f7a4_28 rfl 1 rfl ?_
          refine x_iadd C dJ6_stringSize_0f7a4_29 ?_
          cases h
          exact hB2 (.inr (a16.2 + x2)) rfl _ _ dJ6_stringSize_0f7a4_30 rfl
    · rcases b16 with z16 | w16
      · rw [Sum.elim_inl] at h
        show X p l e R s m args below meth c 4 cy D B 0 0 Q 42 [(1, .int x2)] [] σ Y
        refine x_bipush C (v := 10) dJ6_stringSize_0f7a4_42 (by decide) ?_
        refine x_iload_n C dJ6_stringSize_0f7a4_44 rfl 0 rfl ?_
        refine x_iadd C dJ6_stringSize_0f7a4_45 ?_
        cases h
        exact hret _ _ dJ6_stringSize_0f7a4_46 rfl
      · rw [Sum.elim_inr] at h
        show ∀ (pc9 : Nat) (lcs9 : List (Nat × Value)), decode cJ6_stringSize_0f7a4 pc9 = .ok (.ireturn, 1) → narrow .int (.int w16) = .int w16 → X p l e R s m args below meth c 4 cy D B 0 0 Q pc9 lcs9 [.int w16] σ Y
        cases h
        exact hret
  refine x_if_lt C (tgt := 11) dJ6_stringSize_0f7a4_3 (by decide) (fun hc7 => ?_) (fun hc7 => ?_)
  · rw [if_pos hc7] at h
    refine x_sub [1, 0] rfl ?_
    exact hJ6 p1 (1 : Int32) _ h hret
  · rw [if_neg hc7] at h
    refine x_iconst C (v := 0) dJ6_stringSize_0f7a4_6 (by decide) ?_
    refine x_istore_n C [(1, .int (0 : Int32)), (0, .int p1)] dJ6_stringSize_0f7a4_7 rfl (by decide) rfl ?_
    refine x_iload_n C dJ6_stringSize_0f7a4_8 rfl 1 rfl ?_
    refine x_ineg C dJ6_stringSize_0f7a4_9 ?_
    refine x_istore_n C [(0, .int (-p1)), (1, .int (0 : Int32))] dJ6_stringSize_0f7a4_10 rfl (by decide) rfl ?_
    exact hJ6 (-p1) (0 : Int32) _ h hret
def fJ7_checkLength_df160 (p1 : Int32) (p2 : Int32) : Option (Unit) := (if p1 ≤ p2 then (some ()) else none)
set_option maxHeartbeats 4000000 in
set_option maxRecDepth 100000 in
theorem okJ7_checkLength_df160 (l : Launch) (cy : Nat → ClassId) (D : va_G) (B : Nat) (ek : EK) (p1 : Int32) (p2 : Int32) (σ : Mem) (Y : va_W) (res : Unit) (h : fJ7_checkLength_df160 p1 p2 = some res) : CT l cy D B ek yJ7_checkLength_df160 cJ7_checkLength_df160 2 none ({ frames := 0, cells := 0, slots := 0, locals := 0 } : Room) [.int p1, .int p2] σ Y none σ Y := by
  refine met_X (own := "java/util/Arrays") (by decide) rfl (Nat.le_of_ble_eq_true rfl) ?_
  intro p e s m args below meth c C hrT hlk
  have hret : ∀ (pc9 : Nat) (lcs9 : List (Nat × Value)), decode cJ7_checkLength_df160 pc9 = .ok (.return_, 1) → X p l e ({ frames := 0, cells := 0, slots := 0, locals := 0 } : Room) s m args below meth c 2 cy D B 0 0 (MQ below (QR cy D B none σ Y) args s 0 0 (aB B)) pc9 lcs9 [] σ Y := fun _ _ hd => x_vret C hrT hlk hd
  generalize (MQ below (QR cy D B none σ Y) args s 0 0 (aB B)) = Q at hret ⊢
  obtain ⟨R, hR9⟩ : ∃ R : Room, R = ({ frames := 0, cells := 0, slots := 0, locals := 0 } : Room) := ⟨_, rfl⟩
  rw [← hR9] at hret ⊢
  unfold fJ7_checkLength_df160 at h
  show X p l e R s m args below meth c 2 cy D B 0 0 Q 0 [(0, .int p1), (1, .int p2)] [] σ Y
  refine x_iload_n C dJ7_checkLength_df160_0 rfl 1 rfl ?_
  refine x_iload_n C dJ7_checkLength_df160_1 rfl 0 rfl ?_
  refine x_icmp_ge C (tgt := 37) dJ7_checkLength_df160_2 (by decide) (fun hc1 => ?_) (fun hc1 => ?_)
  · rw [if_pos hc1] at h
    cases h
    exact hret _ _ dJ7_checkLength_df160_37
  · rw [if_neg hc1] at h
    cases h
def jT_sbLat_17 : Option (Int32) := (gd ((0 : Int32) = 0 ∨ (0 : Int32) = 1) (some (0 : Int32)))
def fT_sbLat (cap : Nat) (bf : Nat → Int32) (cn : Int32) : Option (Int32) := (if (1 : Int32) = 0 then (jT_sbLat_17) else (if ¬ (0 : Int32) = 0 then (jT_sbLat_17) else (gd ((1 : Int32) = 0 ∨ (1 : Int32) = 1) (some (1 : Int32)))))
set_option maxHeartbeats 4000000 in
set_option maxRecDepth 100000 in
theorem okT_sbLat (l : Launch) (cy : Nat → ClassId) (D : va_G) (B : Nat) (ek : EK) (aS : Nat) (aV : Nat) (iS : Nat) (iV : Nat) (cap : Nat) (bf : Nat → Int32) (cn : Int32) (σ : Mem) (Y : va_W) (hSB : Y[iS]? = some (cSB aS aV cn)) (hSV : Y[iV]? = some (cBy cy aV cap bf)) (res : Int32) (h : fT_sbLat cap bf cn = some res) : CTE l cy D B ek yJ5_isLatin1_aae02 cJ5_isLatin1_aae02 1 (some .boolean) ({ frames := 0, cells := 0, slots := 0, locals := 0 } : Room) 0 0 [.ref aS] σ Y (fun v9 σ9 Y9 => v9 = (some (.int res)) ∧ σ9 = σ ∧ Y9 = Y) := by
  refine met_XE (own := "java/lang/AbstractStringBuilder") (by decide) rfl (Nat.le_of_ble_eq_true rfl) ?_
  intro p e s m args below meth c C hrT hlk
  have hret : ∀ (cells9 slots9 pc9 : Nat) (lcs9 : List (Nat × Value)), decode cJ5_isLatin1_aae02 pc9 = .ok (.ireturn, 1) → narrow .boolean (.int res) = .int res → cells9 ≤ 0 → slots9 ≤ 0 → X p l e ({ frames := 0, cells := 0, slots := 0, locals := 0 } : Room) s m args below meth c 1 cy D B cells9 slots9 (MQ below (QE cy D B (fun v9 σ9 Y9 => v9 = (some (.int res)) ∧ σ9 = σ ∧ Y9 = Y)) args s 0 0 (aB B)) pc9 lcs9 [(.int res)] σ Y := fun cells9 slots9 pc9 lcs9 hd hn h1 h2 => x_zretE C hrT hlk hn hd h1 h2 ⟨rfl, rfl, rfl⟩
  generalize (MQ below (QE cy D B (fun v9 σ9 Y9 => v9 = (some (.int res)) ∧ σ9 = σ ∧ Y9 = Y)) args s 0 0 (aB B)) = Q at hret ⊢
  obtain ⟨R, hR9⟩ : ∃ R : Room, R = ({ frames := 0, cells := 0, slots := 0, locals := 0 } : Room) := ⟨_, rfl⟩
  rw [← hR9] at hret ⊢
  have hRc : R.cells = 0 := by rw [hR9]
  have hRs : R.slots = 0 := by rw [hR9]
  unfold fT_sbLat at h
  show X p l e R s m args below meth c 1 cy D B 0 0 Q 0 [(0, .ref aS)] [] σ Y
  refine x_compact C (lw_g_mk tw_790 rfl) dJ5_isLatin1_aae02_0 ?_
  have hJ2 : ∀ (r9 : Int32), jT_sbLat_17 = some r9 → (∀ (cells9 slots9 pc9 : Nat) (lcs9 : List (Nat × Value)), decode cJ5_isLatin1_aae02 pc9 = .ok (.ireturn, 1) → narrow .boolean (.int r9) = .int r9 → cells9 ≤ 0 → slots9 ≤ 0 → X p l e R s m args below meth c 1 cy D B cells9 slots9 Q pc9 lcs9 [(.int r9)] σ Y) → X p l e R s m args below meth c 1 cy D B 0 0 Q 17 [] [] σ Y := by
    intro res9 h hret
    unfold jT_sbLat_17 at h
    refine x_iconst C (v := 0) dJ5_isLatin1_aae02_17 (by decide) ?_
    obtain ⟨hg1, h⟩ := gd_some h
    obtain rfl := Option.some.inj h
    exact hret _ _ _ _ dJ5_isLatin1_aae02_18 (nar_Z hg1) (by omega) (by omega)
  refine x_if_eq C (tgt := 17) dJ5_isLatin1_aae02_3 (by decide) (fun hc3 => ?_) (fun hc3 => ?_)
  · rw [if_pos hc3] at h
    refine x_sub [] rfl ?_
    exact hJ2 _ h hret
  · rw [if_neg hc3] at h
    refine x_aload_n C dJ5_isLatin1_aae02_6 rfl 0 rfl ?_
    refine x_get C (C1 := "java/lang/StringBuilder") (T := TJ4) (N := 4) (ci := 1) inJg4 _ (wl_ex hSB) rfl 1 (by decide) (lw_g_mk tw_799 rfl) rfl dJ5_isLatin1_aae02_7 ?_
    refine x_if_ne C (tgt := 17) dJ5_isLatin1_aae02_10 (by decide) (fun hc4 => ?_) (fun hc4 => ?_)
    · rw [if_pos hc4] at h
      refine x_sub [] rfl ?_
      exact hJ2 _ h hret
    · rw [if_neg hc4] at h
      refine x_iconst C (v := 1) dJ5_isLatin1_aae02_13 (by decide) ?_
      refine x_goto C (tgt := 18) dJ5_isLatin1_aae02_14 (by decide) ?_
      obtain ⟨hg5, h⟩ := gd_some h
      obtain rfl := Option.some.inj h
      exact hret _ _ _ _ dJ5_isLatin1_aae02_18 (nar_Z hg5) (by omega) (by omega)
def fT_sbNew (p1 : Int32) (cap : Nat) (bf : Nat → Int32) (cn : Int32) : Option (Int32) := ((fJ8_newLength_cabcc (Int32.ofNat cap) ((p1 <<< ((0 : Int32) &&& 31)) - (Int32.ofNat cap)) ((Int32.ofNat cap) + ((2 : Int32) <<< ((0 : Int32) &&& 31)))).bind fun q1 => (if ¬ q1 = (2147483647 : Int32) then (some (q1 >>> ((0 : Int32) &&& 31))) else none))
set_option maxHeartbeats 4000000 in
set_option maxRecDepth 100000 in
theorem okT_sbNew (l : Launch) (cy : Nat → ClassId) (D : va_G) (B : Nat) (ek : EK) (aS : Nat) (aV : Nat) (iS : Nat) (iV : Nat) (p1 : Int32) (cap : Nat) (bf : Nat → Int32) (cn : Int32) (σ : Mem) (Y : va_W) (hSB : Y[iS]? = some (cSB aS aV cn)) (hSV : Y[iV]? = some (cBy cy aV cap bf)) (res : Int32) (h : fT_sbNew p1 cap bf cn = some res) : CTE l cy D B ek yJ5_newCapacity_0f7a4 cJ5_newCapacity_0f7a4 6 (some .int) ({ frames := 7, cells := 0, slots := 0, locals := 143 } : Room) 0 0 [.ref aS, .int p1] σ Y (fun v9 σ9 Y9 => v9 = (some (.int res)) ∧ σ9 = σ ∧ Y9 = Y) := by
  refine met_XE (own := "java/lang/AbstractStringBuilder") (by decide) rfl (Nat.le_of_ble_eq_true rfl) ?_
  intro p e s m args below meth c C hrT hlk
  have hret : ∀ (cells9 slots9 pc9 : Nat) (lcs9 : List (Nat × Value)), decode cJ5_newCapacity_0f7a4 pc9 = .ok (.ireturn, 1) → narrow .int (.int res) = .int res → cells9 ≤ 0 → slots9 ≤ 0 → X p l e ({ frames := 7, cells := 0, slots := 0, locals := 143 } : Room) s m args below meth c 6 cy D B cells9 slots9 (MQ below (QE cy D B (fun v9 σ9 Y9 => v9 = (some (.int res)) ∧ σ9 = σ ∧ Y9 = Y)) args s 0 0 (aB B)) pc9 lcs9 [(.int res)] σ Y := fun cells9 slots9 pc9 lcs9 hd hn h1 h2 => x_zretE C hrT hlk hn hd h1 h2 ⟨rfl, rfl, rfl⟩
  generalize (MQ below (QE cy D B (fun v9 σ9 Y9 => v9 = (some (.int res)) ∧ σ9 = σ ∧ Y9 = Y)) args s 0 0 (aB B)) = Q at hret ⊢
  obtain ⟨R, hR9⟩ : ∃ R : Room, R = ({ frames := 7, cells := 0, slots := 0, locals := 143 } : Room) := ⟨_, rfl⟩
  rw [← hR9] at hret ⊢
  have hRc : R.cells = 0 := by rw [hR9]
  have hRs : R.slots = 0 := by rw [hR9]
  unfold fT_sbNew at h
  show X p l e R s m args below meth c 6 cy D B 0 0 Q 0 [(0, .ref aS), (1, .int p1)] [] σ Y
  refine x_aload_n C dJ5_newCapacity_0f7a4_0 rfl 0 rfl ?_
  refine x_get C (C1 := "java/lang/StringBuilder") (T := TJ4) (N := 4) (ci := 1) inJg4 _ (wl_ex hSB) rfl 0 (by decide) (lw_g_mk tw_798 rfl) rfl dJ5_newCapacity_0f7a4_1 ?_
  refine x_alen C _ 2 (wl_ex hSV) rfl (v := Int32.ofNat cap) rfl dJ5_newCapacity_0f7a4_4 ?_
  refine x_istore_n C [(2, .int (Int32.ofNat cap)), (0, .ref aS), (1, .int p1)] dJ5_newCapacity_0f7a4_5 rfl (by decide) rfl ?_
  refine x_iload_n C dJ5_newCapacity_0f7a4_6 rfl 2 rfl ?_
  refine x_aload_n C dJ5_newCapacity_0f7a4_7 rfl 1 rfl ?_
  refine x_get C (C1 := "java/lang/StringBuilder") (T := TJ4) (N := 4) (ci := 1) inJg4 _ (wl_ex hSB) rfl 1 (by decide) (lw_g_mk tw_799 rfl) rfl dJ5_newCapacity_0f7a4_8 ?_
  refine x_ishl C dJ5_newCapacity_0f7a4_11 ?_
  refine x_istore_n C [(3, .int (p1 <<< ((0 : Int32) &&& 31))), (2, .int (Int32.ofNat cap)), (0, .ref aS), (1, .int p1)] dJ5_newCapacity_0f7a4_12 rfl (by decide) rfl ?_
  refine x_iload_n C dJ5_newCapacity_0f7a4_13 rfl 0 rfl ?_
  refine x_iload_n C dJ5_newCapacity_0f7a4_14 rfl 1 rfl ?_
  refine x_isub C dJ5_newCapacity_0f7a4_15 ?_
  refine x_istore C [(4, .int ((p1 <<< ((0 : Int32) &&& 31)) - (Int32.ofNat cap))), (3, .int (p1 <<< ((0 : Int32) &&& 31))), (2, .int (Int32.ofNat cap)), (0, .ref aS), (1, .int p1)] dJ5_newCapacity_0f7a4_16 (by decide) rfl ?_
  refine x_iload_n C dJ5_newCapacity_0f7a4_18 rfl 2 rfl ?_
  refine x_iload C dJ5_newCapacity_0f7a4_19 0 rfl ?_
  refine x_iload_n C dJ5_newCapacity_0f7a4_21 rfl 2 rfl ?_
  refine x_iconst C (v := 2) dJ5_newCapacity_0f7a4_22 (by decide) ?_
  refine x_aload_n C dJ5_newCapacity_0f7a4_23 rfl 3 rfl ?_
  refine x_get C (C1 := "java/lang/StringBuilder") (T := TJ4) (N := 4) (ci := 1) inJg4 _ (wl_ex hSB) rfl 1 (by decide) (lw_g_mk tw_799 rfl) rfl dJ5_newCapacity_0f7a4_24 ?_
  refine x_ishl C dJ5_newCapacity_0f7a4_27 ?_
  refine x_iadd C dJ5_newCapacity_0f7a4_28 ?_
  obtain ⟨q1, hk1, h⟩ := Option.bind_eq_some_iff.mp h
  refine x_callS C (As := [.int (Int32.ofNat cap), .int ((p1 <<< ((0 : Int32) &&& 31)) - (Int32.ofNat cap)), .int ((Int32.ofNat cap) + ((2 : Int32) <<< ((0 : Int32) &&& 31)))]) (rest := []) (lw_g_mk tw_832 rfl) (okJ8_newLength_cabcc l cy D B ek (Int32.ofNat cap) ((p1 <<< ((0 : Int32) &&& 31)) - (Int32.ofNat cap)) ((Int32.ofNat cap) + ((2 : Int32) <<< ((0 : Int32) &&& 31))) σ Y _ hk1) rfl rfl (by rw [hR9]; decide) (lw_g_mk tw_833 rfl) (lw_g_mk tw_15 rfl) (by decide) rfl (lw_g_mk tw_831 rfl) rfl (Nat.le_of_ble_eq_true rfl) dJ5_newCapacity_0f7a4_29 ⟨by rw [hRc]; omega, by rw [hRs]; omega⟩ ?_
  refine x_istore C [(5, .int q1), (4, .int ((p1 <<< ((0 : Int32) &&& 31)) - (Int32.ofNat cap))), (3, .int (p1 <<< ((0 : Int32) &&& 31))), (2, .int (Int32.ofNat cap)), (0, .ref aS), (1, .int p1)] dJ5_newCapacity_0f7a4_32 (by decide) rfl ?_
  refine x_iload C dJ5_newCapacity_0f7a4_34 0 rfl ?_
  refine x_ldc C (v := 2147483647) (lw_g_mk tw_839 rfl) dJ5_newCapacity_0f7a4_36 ?_
  refine x_icmp_ne C (tgt := 51) dJ5_newCapacity_0f7a4_38 (by decide) (fun hc2 => ?_) (fun hc2 => ?_)
  · rw [if_pos hc2] at h
    refine x_iload C dJ5_newCapacity_0f7a4_51 0 rfl ?_
    refine x_aload_n C dJ5_newCapacity_0f7a4_53 rfl 4 rfl ?_
    refine x_get C (C1 := "java/lang/StringBuilder") (T := TJ4) (N := 4) (ci := 1) inJg4 _ (wl_ex hSB) rfl 1 (by decide) (lw_g_mk tw_799 rfl) rfl dJ5_newCapacity_0f7a4_54 ?_
    refine x_ishr C dJ5_newCapacity_0f7a4_57 ?_
    obtain rfl := Option.some.inj h
    exact hret _ _ _ _ dJ5_newCapacity_0f7a4_58 rfl (by omega) (by omega)
  · rw [if_neg hc2] at h
    cases h
def fT_sbLen (cap : Nat) (bf : Nat → Int32) (cn : Int32) : Option (Int32) := (some cn)
set_option maxHeartbeats 4000000 in
set_option maxRecDepth 100000 in
theorem okT_sbLen (l : Launch) (cy : Nat → ClassId) (D : va_G) (B : Nat) (ek : EK) (aS : Nat) (aV : Nat) (iS : Nat) (iV : Nat) (cap : Nat) (bf : Nat → Int32) (cn : Int32) (σ : Mem) (Y : va_W) (hSB : Y[iS]? = some (cSB aS aV cn)) (hSV : Y[iV]? = some (cBy cy aV cap bf)) (res : Int32) (h : fT_sbLen cap bf cn = some res) : CTE l cy D B ek yJ5_length_8abf5 cJ5_length_8abf5 1 (some .int) ({ frames := 0, cells := 0, slots := 0, locals := 0 } : Room) 0 0 [.ref aS] σ Y (fun v9 σ9 Y9 => v9 = (some (.int res)) ∧ σ9 = σ ∧ Y9 = Y) := by
  refine met_XE (own := "java/lang/AbstractStringBuilder") (by decide) rfl (Nat.le_of_ble_eq_true rfl) ?_
  intro p e s m args below meth c C hrT hlk
  have hret : ∀ (cells9 slots9 pc9 : Nat) (lcs9 : List (Nat × Value)), decode cJ5_length_8abf5 pc9 = .ok (.ireturn, 1) → narrow .int (.int res) = .int res → cells9 ≤ 0 → slots9 ≤ 0 → X p l e ({ frames := 0, cells := 0, slots := 0, locals := 0 } : Room) s m args below meth c 1 cy D B cells9 slots9 (MQ below (QE cy D B (fun v9 σ9 Y9 => v9 = (some (.int res)) ∧ σ9 = σ ∧ Y9 = Y)) args s 0 0 (aB B)) pc9 lcs9 [(.int res)] σ Y := fun cells9 slots9 pc9 lcs9 hd hn h1 h2 => x_zretE C hrT hlk hn hd h1 h2 ⟨rfl, rfl, rfl⟩
  generalize (MQ below (QE cy D B (fun v9 σ9 Y9 => v9 = (some (.int res)) ∧ σ9 = σ ∧ Y9 = Y)) args s 0 0 (aB B)) = Q at hret ⊢
  obtain ⟨R, hR9⟩ : ∃ R : Room, R = ({ frames := 0, cells := 0, slots := 0, locals := 0 } : Room) := ⟨_, rfl⟩
  rw [← hR9] at hret ⊢
  have hRc : R.cells = 0 := by rw [hR9]
  have hRs : R.slots = 0 := by rw [hR9]
  unfold fT_sbLen at h
  show X p l e R s m args below meth c 1 cy D B 0 0 Q 0 [(0, .ref aS)] [] σ Y
  refine x_aload_n C dJ5_length_8abf5_0 rfl 0 rfl ?_
  refine x_get C (C1 := "java/lang/StringBuilder") (T := TJ4) (N := 4) (ci := 1) inJg4 _ (wl_ex hSB) rfl 3 (by decide) (lw_g_mk tw_801 rfl) rfl dJ5_length_8abf5_1 ?_
  obtain rfl := Option.some.inj h
  exact hret _ _ _ _ dJ5_length_8abf5_4 rfl (by omega) (by omega)
def fT_sbLn (cap : Nat) (bf : Nat → Int32) (cn : Int32) : Option (Int32) := ((fT_sbLen cap bf cn).bind fun q1 => (some q1))
set_option maxHeartbeats 4000000 in
set_option maxRecDepth 100000 in
theorem okT_sbLn (l : Launch) (cy : Nat → ClassId) (D : va_G) (B : Nat) (ek : EK) (aS : Nat) (aV : Nat) (iS : Nat) (iV : Nat) (cap : Nat) (bf : Nat → Int32) (cn : Int32) (σ : Mem) (Y : va_W) (hSB : Y[iS]? = some (cSB aS aV cn)) (hSV : Y[iV]? = some (cBy cy aV cap bf)) (res : Int32) (h : fT_sbLn cap bf cn = some res) : CTE l cy D B ek yJ4_length_8abf5 cJ4_length_8abf5 1 (some .int) ({ frames := 1, cells := 0, slots := 0, locals := 20 } : Room) 0 0 [.ref aS] σ Y (fun v9 σ9 Y9 => v9 = (some (.int res)) ∧ σ9 = σ ∧ Y9 = Y) := by
  refine met_XE (own := "java/lang/StringBuilder") (by decide) rfl (Nat.le_of_ble_eq_true rfl) ?_
  intro p e s m args below meth c C hrT hlk
  have hret : ∀ (cells9 slots9 pc9 : Nat) (lcs9 : List (Nat × Value)), decode cJ4_length_8abf5 pc9 = .ok (.ireturn, 1) → narrow .int (.int res) = .int res → cells9 ≤ 0 → slots9 ≤ 0 → X p l e ({ frames := 1, cells := 0, slots := 0, locals := 20 } : Room) s m args below meth c 1 cy D B cells9 slots9 (MQ below (QE cy D B (fun v9 σ9 Y9 => v9 = (some (.int res)) ∧ σ9 = σ ∧ Y9 = Y)) args s 0 0 (aB B)) pc9 lcs9 [(.int res)] σ Y := fun cells9 slots9 pc9 lcs9 hd hn h1 h2 => x_zretE C hrT hlk hn hd h1 h2 ⟨rfl, rfl, rfl⟩
  generalize (MQ below (QE cy D B (fun v9 σ9 Y9 => v9 = (some (.int res)) ∧ σ9 = σ ∧ Y9 = Y)) args s 0 0 (aB B)) = Q at hret ⊢
  obtain ⟨R, hR9⟩ : ∃ R : Room, R = ({ frames := 1, cells := 0, slots := 0, locals := 20 } : Room) := ⟨_, rfl⟩
  rw [← hR9] at hret ⊢
  have hRc : R.cells = 0 := by rw [hR9]
  have hRs : R.slots = 0 := by rw [hR9]
  unfold fT_sbLn at h
  show X p l e R s m args below meth c 1 cy D B 0 0 Q 0 [(0, .ref aS)] [] σ Y
  refine x_aload_n C dJ4_length_8abf5_0 rfl 0 rfl ?_
  obtain ⟨q1, hk1, h⟩ := Option.bind_eq_some_iff.mp h
  refine x_callPE C (As := []) (rest := []) (lw_g_mk tw_975 rfl) (lw_g_mk tw_976 rfl) (lw_g_mk tw_810 rfl) (by decide) (wl_ex hSB) (C1 := "java/lang/StringBuilder") (T := TJ4) (N := 4) (ci := 1) rfl (okT_sbLen l cy D B ek _ _ _ _ cap bf cn σ Y hSB hSV _ hk1) rfl rfl (by rw [hR9]; decide) (lw_g_mk tw_981 rfl) (lw_g_mk tw_11 rfl) (by decide) rfl (lw_g_mk tw_980 rfl) rfl (Nat.le_of_ble_eq_true rfl) dJ4_length_8abf5_1 ⟨by rw [hRc]; omega, by rw [hRs]; omega⟩ (fun v9 σ9 Y9 hp9 => ?_)
  obtain ⟨e7, e8, e9⟩ := hp9
  rw [e7, e8, e9]
  obtain rfl := Option.some.inj h
  exact hret _ _ _ _ dJ4_length_8abf5_4 rfl (by omega) (by omega)
def fT_sbVal (cap : Nat) (bf : Nat → Int32) (cn : Int32) : Option (Unit) := (some ())
set_option maxHeartbeats 4000000 in
set_option maxRecDepth 100000 in
theorem okT_sbVal (l : Launch) (cy : Nat → ClassId) (D : va_G) (B : Nat) (ek : EK) (aS : Nat) (aV : Nat) (iS : Nat) (iV : Nat) (cap : Nat) (bf : Nat → Int32) (cn : Int32) (σ : Mem) (Y : va_W) (hSB : Y[iS]? = some (cSB aS aV cn)) (hSV : Y[iV]? = some (cBy cy aV cap bf)) (res : Unit) (h : fT_sbVal cap bf cn = some res) : CTE l cy D B ek yJ5_getValue_6d5f1 cJ5_getValue_6d5f1 1 (some (.array .byte)) ({ frames := 0, cells := 0, slots := 0, locals := 0 } : Room) 0 0 [.ref aS] σ Y (fun v9 σ9 Y9 => v9 = (some (.ref aV)) ∧ σ9 = σ ∧ Y9 = Y) := by
  refine met_XE (own := "java/lang/AbstractStringBuilder") (by decide) rfl (Nat.le_of_ble_eq_true rfl) ?_
  intro p e s m args below meth c C hrT hlk
  have hret : ∀ (cells9 slots9 pc9 : Nat) (lcs9 : List (Nat × Value)), decode cJ5_getValue_6d5f1 pc9 = .ok (.areturn, 1) → cells9 ≤ 0 → slots9 ≤ 0 → X p l e ({ frames := 0, cells := 0, slots := 0, locals := 0 } : Room) s m args below meth c 1 cy D B cells9 slots9 (MQ below (QE cy D B (fun v9 σ9 Y9 => v9 = (some (.ref aV)) ∧ σ9 = σ ∧ Y9 = Y)) args s 0 0 (aB B)) pc9 lcs9 [(.ref aV)] σ Y := fun cells9 slots9 pc9 lcs9 hd h1 h2 => x_aretE C hrT hlk (Or.inr ⟨_, rfl⟩) hd h1 h2 ⟨rfl, rfl, rfl⟩
  generalize (MQ below (QE cy D B (fun v9 σ9 Y9 => v9 = (some (.ref aV)) ∧ σ9 = σ ∧ Y9 = Y)) args s 0 0 (aB B)) = Q at hret ⊢
  obtain ⟨R, hR9⟩ : ∃ R : Room, R = ({ frames := 0, cells := 0, slots := 0, locals := 0 } : Room) := ⟨_, rfl⟩
  rw [← hR9] at hret ⊢
  have hRc : R.cells = 0 := by rw [hR9]
  have hRs : R.slots = 0 := by rw [hR9]
  unfold fT_sbVal at h
  show X p l e R s m args below meth c 1 cy D B 0 0 Q 0 [(0, .ref aS)] [] σ Y
  refine x_aload_n C dJ5_getValue_6d5f1_0 rfl 0 rfl ?_
  refine x_get C (C1 := "java/lang/StringBuilder") (T := TJ4) (N := 4) (ci := 1) inJg4 _ (wl_ex hSB) rfl 0 (by decide) (lw_g_mk tw_798 rfl) rfl dJ5_getValue_6d5f1_1 ?_
  obtain rfl := Option.some.inj h
  exact hret _ _ _ _ dJ5_getValue_6d5f1_4 (by omega) (by omega)
def fT_cpOf (p2 : Int32) (cap : Nat) (bf : Nat → Int32) : Option ((Nat × (Nat → Int32))) := (if ¬ p2 = (Int32.ofNat cap) then (gd (¬ p2 < 0) (gd (p2.toNatClampNeg ≤ 2000) (gd (¬ (0 : Int32) < 0) (gd (¬ (if p2 < (Int32.ofNat cap) then p2 else (Int32.ofNat cap)) < 0) (gd (¬ (0 : Int32) < 0) (gd ((0 : Int32).toNatClampNeg + (if p2 < (Int32.ofNat cap) then p2 else (Int32.ofNat cap)).toNatClampNeg ≤ cap) (gd ((0 : Int32).toNatClampNeg + (if p2 < (Int32.ofNat cap) then p2 else (Int32.ofNat cap)).toNatClampNeg ≤ p2.toNatClampNeg) (gd (∀ i, i < (if p2 < (Int32.ofNat cap) then p2 else (Int32.ofNat cap)).toNatClampNeg → fits .byte (.int (bf ((0 : Int32).toNatClampNeg + i))) = true) (some (p2.toNatClampNeg, va_cpy bf (fun _ => 0) (0 : Int32).toNatClampNeg (0 : Int32).toNatClampNeg (if p2 < (Int32.ofNat cap) then p2 else (Int32.ofNat cap)).toNatClampNeg)))))))))) else (gd (∀ i, i < cap → fits .byte (.int (bf i)) = true) (gd (cap ≤ 2000) (some (cap, bf)))))
set_option maxHeartbeats 4000000 in
set_option maxRecDepth 100000 in
theorem okT_cpOf (l : Launch) (cy : Nat → ClassId) (D : va_G) (B : Nat) (ek : EK) (aV : Nat) (iV : Nat) (p2 : Int32) (cap : Nat) (bf : Nat → Int32) (σ : Mem) (Y : va_W) (hSV : Y[iV]? = some (cBy cy aV cap bf)) (res : (Nat × (Nat → Int32))) (h : fT_cpOf p2 cap bf = some res) : CTE l cy D B ek yJ7_copyOf_9075b cJ7_copyOf_9075b 3 (some (.array .byte)) ({ frames := 6, cells := 1, slots := 2000, locals := 120 } : Room) 1 2000 [.ref aV, .int p2] σ Y (fun v9 σ9 Y9 => ∃ aN : Nat, v9 = (some (.ref aN)) ∧ σ9 = σ ∧ Y9 = (Y ++ [cBy cy aN res.1 res.2])) := by
  refine met_XE (own := "java/util/Arrays") (by decide) rfl (Nat.le_of_ble_eq_true rfl) ?_
  intro p e s m args below meth c C hrT hlk
  have hret : ∀ (aN : Nat) (cells9 slots9 pc9 : Nat) (lcs9 : List (Nat × Value)), decode cJ7_copyOf_9075b pc9 = .ok (.areturn, 1) → cells9 ≤ 1 → slots9 ≤ 2000 → X p l e ({ frames := 6, cells := 1, slots := 2000, locals := 120 } : Room) s m args below meth c 3 cy D B cells9 slots9 (MQ below (QE cy D B (fun v9 σ9 Y9 => ∃ aN : Nat, v9 = (some (.ref aN)) ∧ σ9 = σ ∧ Y9 = (Y ++ [cBy cy aN res.1 res.2]))) args s 1 2000 (aB B)) pc9 lcs9 [(.ref aN)] σ (Y ++ [cBy cy aN res.1 res.2]) := fun aN cells9 slots9 pc9 lcs9 hd h1 h2 => x_aretE C hrT hlk (Or.inr ⟨_, rfl⟩) hd h1 h2 ⟨aN, rfl, rfl, rfl⟩
  generalize (MQ below (QE cy D B (fun v9 σ9 Y9 => ∃ aN : Nat, v9 = (some (.ref aN)) ∧ σ9 = σ ∧ Y9 = (Y ++ [cBy cy aN res.1 res.2]))) args s 1 2000 (aB B)) = Q at hret ⊢
  obtain ⟨R, hR9⟩ : ∃ R : Room, R = ({ frames := 6, cells := 1, slots := 2000, locals := 120 } : Room) := ⟨_, rfl⟩
  rw [← hR9] at hret ⊢
  have hRc : R.cells = 1 := by rw [hR9]
  have hRs : R.slots = 2000 := by rw [hR9]
  unfold fT_cpOf at h
  show X p l e R s m args below meth c 3 cy D B 0 0 Q 0 [(0, .ref aV), (1, .int p2)] [] σ Y
  refine x_iload_n C dJ7_copyOf_9075b_0 rfl 1 rfl ?_
  refine x_aload_n C dJ7_copyOf_9075b_1 rfl 0 rfl ?_
  refine x_alen C _ 2 (wl_ex hSV) rfl (v := Int32.ofNat cap) rfl dJ7_copyOf_9075b_2 ?_
  refine x_icmp_ne C (tgt := 14) dJ7_copyOf_9075b_3 (by decide) (fun hc1 => ?_) (fun hc1 => ?_)
  · rw [if_pos hc1] at h
    refine x_iload_n C dJ7_copyOf_9075b_14 rfl 1 rfl ?_
    obtain ⟨hg2, h⟩ := gd_some h
    obtain ⟨hg3, h⟩ := gd_some h
    refine x_newBv C (lw_g_mk tw_63 rfl) hg2 hg3 (by rw [hRc]; omega) (by rw [hRs]; omega) dJ7_copyOf_9075b_15 (fun aN => ?_)
    refine x_astore_n C [(2, .ref aN), (0, .ref aV), (1, .int p2)] dJ7_copyOf_9075b_17 rfl (by decide) rfl ?_
    refine x_aload_n C dJ7_copyOf_9075b_18 rfl 1 rfl ?_
    refine x_iconst C (v := 0) dJ7_copyOf_9075b_19 (by decide) ?_
    refine x_aload_n C dJ7_copyOf_9075b_20 rfl 0 rfl ?_
    refine x_iconst C (v := 0) dJ7_copyOf_9075b_21 (by decide) ?_
    refine x_aload_n C dJ7_copyOf_9075b_22 rfl 1 rfl ?_
    refine x_alen C _ 2 (wl_ex (ap_some hSV)) rfl (v := Int32.ofNat cap) rfl dJ7_copyOf_9075b_23 ?_
    refine x_iload_n C dJ7_copyOf_9075b_24 rfl 2 rfl ?_
    refine x_mmin C (lw_g_mk tw_850 rfl) (lw_g_mk tw_663 rfl) (lw_g_mk tw_16 rfl) (lw_g_mk tw_664 rfl) (by rw [hR9]; decide) (by rw [hR9]; exact Nat.le_of_ble_eq_true rfl) (by rw [hR9]; decide) dJ7_copyOf_9075b_25 ?_
    obtain ⟨hg4, h⟩ := gd_some h
    obtain ⟨hg5, h⟩ := gd_some h
    obtain ⟨hg6, h⟩ := gd_some h
    obtain ⟨hg7, h⟩ := gd_some h
    obtain ⟨hg8, h⟩ := gd_some h
    obtain ⟨hg9, h⟩ := gd_some h
    refine x_copyB C (lw_g_mk tw_851 rfl) (lw_g_mk tw_853 rfl) (lw_g_mk tw_852 rfl) (lw_g_mk tw_18 rfl) _ _ (wl_ex (ap_some hSV)) (wl_ex pu_0) hg6 hg4 hg5 hg7 hg8 hg9 (by rw [hR9]; decide) (by rw [hR9]; exact Nat.le_of_ble_eq_true rfl) dJ7_copyOf_9075b_28 (wl_exs ps_0) ?_
    refine x_aload_n C dJ7_copyOf_9075b_31 rfl 0 rfl ?_
    obtain rfl := Option.some.inj h
    exact hret aN _ _ _ _ dJ7_copyOf_9075b_32 (by omega) (by omega)
  · rw [if_neg hc1] at h
    refine x_aload_n C dJ7_copyOf_9075b_6 rfl 0 rfl ?_
    obtain ⟨hg10, h⟩ := gd_some h
    obtain ⟨hg11, h⟩ := gd_some h
    refine x_clone C (lw_g_mk tw_843 rfl) (lw_g_mk tw_844 rfl) (lw_g_mk tw_845 rfl) (lw_g_mk tw_846 rfl) (lw_g_mk tw_847 rfl) (lw_g_mk tw_849 rfl) _ (wl_ex hSV) hg10 hg11 (by rw [hR9]; decide) (by rw [hR9]; exact Nat.le_of_ble_eq_true rfl) (by rw [hRc]; omega) (by rw [hRs]; omega) dJ7_copyOf_9075b_7 dJ7_copyOf_9075b_10 (fun aN => ?_)
    obtain rfl := Option.some.inj h
    exact hret aN _ _ _ _ dJ7_copyOf_9075b_13 (by omega) (by omega)
def fT_sbEns (p1 : Int32) (cap : Nat) (bf : Nat → Int32) (cn : Int32) : Option ((Nat × (Nat → Int32))) := (if (p1 - ((Int32.ofNat cap) >>> ((0 : Int32) &&& 31))) ≤ 0 then (some (cap, bf)) else ((fT_sbNew p1 cap bf cn).bind fun q1 => ((fT_cpOf (q1 <<< ((0 : Int32) &&& 31)) cap bf).bind fun q2 => (some (q2.1, q2.2)))))
set_option maxHeartbeats 4000000 in
set_option maxRecDepth 100000 in
theorem okT_sbEns (l : Launch) (cy : Nat → ClassId) (D : va_G) (B : Nat) (ek : EK) (aS : Nat) (aV : Nat) (p1 : Int32) (cap : Nat) (bf : Nat → Int32) (cn : Int32) (σ : Mem) (Y : va_W) (res : (Nat × (Nat → Int32))) (h : fT_sbEns p1 cap bf cn = some res) : CTE l cy D B ek yJ5_ensureCapacityInternal_d00df cJ5_ensureCapacityInternal_d00df 3 none ({ frames := 8, cells := 1, slots := 2000, locals := 168 } : Room) 1 2000 [.ref aS, .int p1] σ (Y ++ [cSB aS aV cn, cBy cy aV cap bf]) (fun v9 σ9 Y9 => ∃ aV9 : Nat, v9 = none ∧ σ9 = σ ∧ Y9 = (Y ++ [cSB aS aV9 cn, cBy cy aV9 res.1 res.2])) := by
  refine met_XE (own := "java/lang/AbstractStringBuilder") (by decide) rfl (Nat.le_of_ble_eq_true rfl) ?_
  intro p e s m args below meth c C hrT hlk
  have hret : ∀ (aV9 : Nat) (cells9 slots9 pc9 : Nat) (lcs9 : List (Nat × Value)), decode cJ5_ensureCapacityInternal_d00df pc9 = .ok (.return_, 1) → cells9 ≤ 1 → slots9 ≤ 2000 → X p l e ({ frames := 8, cells := 1, slots := 2000, locals := 168 } : Room) s m args below meth c 3 cy D B cells9 slots9 (MQ below (QE cy D B (fun v9 σ9 Y9 => ∃ aV9 : Nat, v9 = none ∧ σ9 = σ ∧ Y9 = (Y ++ [cSB aS aV9 cn, cBy cy aV9 res.1 res.2]))) args s 1 2000 (aB B)) pc9 lcs9 [] σ (Y ++ [cSB aS aV9 cn, cBy cy aV9 res.1 res.2]) := fun aV9 cells9 slots9 pc9 lcs9 hd h1 h2 => x_vretE C hrT hlk hd h1 h2 ⟨aV9, rfl, rfl, rfl⟩
  generalize (MQ below (QE cy D B (fun v9 σ9 Y9 => ∃ aV9 : Nat, v9 = none ∧ σ9 = σ ∧ Y9 = (Y ++ [cSB aS aV9 cn, cBy cy aV9 res.1 res.2]))) args s 1 2000 (aB B)) = Q at hret ⊢
  obtain ⟨R, hR9⟩ : ∃ R : Room, R = ({ frames := 8, cells := 1, slots := 2000, locals := 168 } : Room) := ⟨_, rfl⟩
  rw [← hR9] at hret ⊢
  have hRc : R.cells = 1 := by rw [hR9]
  have hRs : R.slots = 2000 := by rw [hR9]
  unfold fT_sbEns at h
  show X p l e R s m args below meth c 3 cy D B 0 0 Q 0 [(0, .ref aS), (1, .int p1)] [] σ (Y ++ [cSB aS aV cn, cBy cy aV cap bf])
  refine x_aload_n C dJ5_ensureCapacityInternal_d00df_0 rfl 0 rfl ?_
  refine x_get C (C1 := "java/lang/StringBuilder") (T := TJ4) (N := 4) (ci := 1) inJg4 _ (wl_ex pu_0) rfl 0 (by decide) (lw_g_mk tw_798 rfl) rfl dJ5_ensureCapacityInternal_d00df_1 ?_
  refine x_alen C _ 2 (wl_ex pu_1) rfl (v := Int32.ofNat cap) rfl dJ5_ensureCapacityInternal_d00df_4 ?_
  refine x_aload_n C dJ5_ensureCapacityInternal_d00df_5 rfl 0 rfl ?_
  refine x_get C (C1 := "java/lang/StringBuilder") (T := TJ4) (N := 4) (ci := 1) inJg4 _ (wl_ex pu_0) rfl 1 (by decide) (lw_g_mk tw_799 rfl) rfl dJ5_ensureCapacityInternal_d00df_6 ?_
  refine x_ishr C dJ5_ensureCapacityInternal_d00df_9 ?_
  refine x_istore_n C [(2, .int ((Int32.ofNat cap) >>> ((0 : Int32) &&& 31))), (0, .ref aS), (1, .int p1)] dJ5_ensureCapacityInternal_d00df_10 rfl (by decide) rfl ?_
  refine x_iload_n C dJ5_ensureCapacityInternal_d00df_11 rfl 2 rfl ?_
  refine x_iload_n C dJ5_ensureCapacityInternal_d00df_12 rfl 0 rfl ?_
  refine x_isub C dJ5_ensureCapacityInternal_d00df_13 ?_
  refine x_if_le C (tgt := 38) dJ5_ensureCapacityInternal_d00df_14 (by decide) (fun hc1 => ?_) (fun hc1 => ?_)
  · rw [if_pos hc1] at h
    obtain rfl := Option.some.inj h
    exact hret aV _ _ _ _ dJ5_ensureCapacityInternal_d00df_38 (by omega) (by omega)
  · rw [if_neg hc1] at h
    refine x_aload_n C dJ5_ensureCapacityInternal_d00df_17 rfl 1 rfl ?_
    refine x_aload_n C dJ5_ensureCapacityInternal_d00df_18 rfl 1 rfl ?_
    refine x_get C (C1 := "java/lang/StringBuilder") (T := TJ4) (N := 4) (ci := 1) inJg4 _ (wl_ex pu_0) rfl 0 (by decide) (lw_g_mk tw_798 rfl) rfl dJ5_ensureCapacityInternal_d00df_19 ?_
    refine x_aload_n C dJ5_ensureCapacityInternal_d00df_22 rfl 1 rfl ?_
    refine x_iload_n C dJ5_ensureCapacityInternal_d00df_23 rfl 2 rfl ?_
    obtain ⟨q1, hk2, h⟩ := Option.bind_eq_some_iff.mp h
    refine x_callUE C (As := [.int p1]) (rest := [.ref aV, .ref aS]) (C1 := "java/lang/StringBuilder") (T := TJ4) (N := 4) (ci := 1) (lw_g_mk tw_829 rfl) (lw_g_mk tw_1167 rfl) (hselP C (y := yJ5_newCapacity_0f7a4) (by decide)) (wl_ex pu_0) rfl (okT_sbNew l cy D B ek _ _ _ _ p1 cap bf cn σ (Y ++ [cSB aS aV cn, cBy cy aV cap bf]) pu_0 pu_1 _ hk2) rfl rfl (by rw [hR9]; decide) (lw_g_mk tw_830 rfl) (lw_g_mk tw_11 rfl) (by decide) rfl (lw_g_mk tw_827 rfl) rfl (Nat.le_of_ble_eq_true rfl) dJ5_ensureCapacityInternal_d00df_24 ⟨by rw [hRc]; omega, by rw [hRs]; omega⟩ (fun v9 σ9 Y9 hp9 => ?_)
    obtain ⟨e7, e8, e9⟩ := hp9
    rw [e7, e8, e9]
    refine x_aload_n C dJ5_ensureCapacityInternal_d00df_27 rfl 1 rfl ?_
    refine x_get C (C1 := "java/lang/StringBuilder") (T := TJ4) (N := 4) (ci := 1) inJg4 _ (wl_ex pu_0) rfl 1 (by decide) (lw_g_mk tw_799 rfl) rfl dJ5_ensureCapacityInternal_d00df_28 ?_
    refine x_ishl C dJ5_ensureCapacityInternal_d00df_31 ?_
    obtain ⟨q2, hk3, h⟩ := Option.bind_eq_some_iff.mp h
    refine x_callSE C (As := [.ref aV, .int (q1 <<< ((0 : Int32) &&& 31))]) (rest := [.ref aS]) (lw_g_mk tw_841 rfl) (okT_cpOf l cy D B ek _ _ (q1 <<< ((0 : Int32) &&& 31)) cap bf σ (Y ++ [cSB aS aV cn, cBy cy aV cap bf]) pu_1 _ hk3) rfl rfl (by rw [hR9]; decide) (lw_g_mk tw_842 rfl) (lw_g_mk tw_17 rfl) (by decide) rfl (lw_g_mk tw_840 rfl) rfl (Nat.le_of_ble_eq_true rfl) dJ5_ensureCapacityInternal_d00df_32 ⟨by rw [hRc]; omega, by rw [hRs]; omega⟩ (fun v9 σ9 Y9 hp9 => ?_)
    obtain ⟨aN, e7, e8, e9⟩ := hp9
    rw [List.append_assoc] at e9
    rw [e7, e8, e9]
    refine x_put C (C1 := "java/lang/StringBuilder") (T := TJ4) (N := 4) (ci := 1) inJg4 tyJ4 tyJ4_ok nmJ4 _ (wl_ex pu_0) rfl 0 (by decide) (lw_g_mk tw_798 rfl) rfl rfl rfl rfl (Nat.le_of_ble_eq_true rfl) dJ5_ensureCapacityInternal_d00df_35 (wl_exs ps_0) ?_
    obtain rfl := Option.some.inj h
    refine x_cutm _ _ _ ?_
    exact hret aN _ _ _ _ dJ5_ensureCapacityInternal_d00df_38 (by omega) (by omega)
def jT_sbC0_56 : Option ((Nat × (Nat → Int32) × Int32)) := none
def jT_sbC0_45 (q1 : (Nat × (Nat → Int32))) (cn : Int32) : Option ((Nat × (Nat → Int32) × Int32)) := ((fT_sbLat q1.1 q1.2 cn).bind fun q3 => (if q3 = 0 then (jT_sbC0_56) else none))
def fT_sbC0 (p1 : Int32) (cap : Nat) (bf : Nat → Int32) (cn : Int32) : Option ((Nat × (Nat → Int32) × Int32)) := ((fT_sbEns (cn + (1 : Int32)) cap bf cn).bind fun q1 => ((fT_sbLat q1.1 q1.2 cn).bind fun q2 => (if q2 = 0 then (jT_sbC0_45 q1 cn) else ((fJ1_canEncode_fc78d p1).bind fun q4 => (if q4 = 0 then (jT_sbC0_45 q1 cn) else (gd (inb cn q1.1) (some (q1.1, upd q1.2 cn.toNatClampNeg (vp_nar .byte p1.toInt8.toInt32), cn + (1 : Int32)))))))))
set_option maxHeartbeats 4000000 in
set_option maxRecDepth 100000 in
theorem okT_sbC0 (l : Launch) (cy : Nat → ClassId) (D : va_G) (B : Nat) (ek : EK) (aS : Nat) (aV : Nat) (p1 : Int32) (cap : Nat) (bf : Nat → Int32) (cn : Int32) (σ : Mem) (Y : va_W) (res : (Nat × (Nat → Int32) × Int32)) (h : fT_sbC0 p1 cap bf cn = some res) : CTE l cy D B ek yJ5_append_3fe6f cJ5_append_3fe6f 2 (some (.object "java/lang/AbstractStringBuilder")) ({ frames := 9, cells := 1, slots := 2000, locals := 190 } : Room) 1 2000 [.ref aS, .int p1] σ (Y ++ [cSB aS aV cn, cBy cy aV cap bf]) (fun v9 σ9 Y9 => ∃ aV9 : Nat, v9 = (some (.ref aS)) ∧ σ9 = σ ∧ Y9 = (Y ++ [cSB aS aV9 res.2.2, cBy cy aV9 res.1 res.2.1])) := by
  refine met_XE (own := "java/lang/AbstractStringBuilder") (by decide) rfl (Nat.le_of_ble_eq_true rfl) ?_
  intro p e s m args below meth c C hrT hlk
  have hret : ∀ (aV9 : Nat) (cells9 slots9 pc9 : Nat) (lcs9 : List (Nat × Value)), decode cJ5_append_3fe6f pc9 = .ok (.areturn, 1) → cells9 ≤ 1 → slots9 ≤ 2000 → X p l e ({ frames := 9, cells := 1, slots := 2000, locals := 190 } : Room) s m args below meth c 2 cy D B cells9 slots9 (MQ below (QE cy D B (fun v9 σ9 Y9 => ∃ aV9 : Nat, v9 = (some (.ref aS)) ∧ σ9 = σ ∧ Y9 = (Y ++ [cSB aS aV9 res.2.2, cBy cy aV9 res.1 res.2.1]))) args s 1 2000 (aB B)) pc9 lcs9 [(.ref aS)] σ (Y ++ [cSB aS aV9 res.2.2, cBy cy aV9 res.1 res.2.1]) := fun aV9 cells9 slots9 pc9 lcs9 hd h1 h2 => x_aretE C hrT hlk (Or.inl ⟨_, rfl⟩) hd h1 h2 ⟨aV9, rfl, rfl, rfl⟩
  generalize (MQ below (QE cy D B (fun v9 σ9 Y9 => ∃ aV9 : Nat, v9 = (some (.ref aS)) ∧ σ9 = σ ∧ Y9 = (Y ++ [cSB aS aV9 res.2.2, cBy cy aV9 res.1 res.2.1]))) args s 1 2000 (aB B)) = Q at hret ⊢
  obtain ⟨R, hR9⟩ : ∃ R : Room, R = ({ frames := 9, cells := 1, slots := 2000, locals := 190 } : Room) := ⟨_, rfl⟩
  rw [← hR9] at hret ⊢
  have hRc : R.cells = 1 := by rw [hR9]
  have hRs : R.slots = 2000 := by rw [hR9]
  unfold fT_sbC0 at h
  show X p l e R s m args below meth c 2 cy D B 0 0 Q 0 [(0, .ref aS), (1, .int p1)] [] σ (Y ++ [cSB aS aV cn, cBy cy aV cap bf])
  refine x_aload_n C dJ5_append_3fe6f_0 rfl 0 rfl ?_
  refine x_aload_n C dJ5_append_3fe6f_1 rfl 0 rfl ?_
  refine x_get C (C1 := "java/lang/StringBuilder") (T := TJ4) (N := 4) (ci := 1) inJg4 _ (wl_ex pu_0) rfl 3 (by decide) (lw_g_mk tw_801 rfl) rfl dJ5_append_3fe6f_2 ?_
  refine x_iconst C (v := 1) dJ5_append_3fe6f_5 (by decide) ?_
  refine x_iadd C dJ5_append_3fe6f_6 ?_
  obtain ⟨q1, hk1, h⟩ := Option.bind_eq_some_iff.mp h
  refine x_callUE C (As := [.int (cn + (1 : Int32))]) (rest := []) (C1 := "java/lang/StringBuilder") (T := TJ4) (N := 4) (ci := 1) (lw_g_mk tw_825 rfl) (lw_g_mk tw_1166 rfl) (hselP C (y := yJ5_ensureCapacityInternal_d00df) (by decide)) (wl_ex pu_0) rfl (okT_sbEns l cy D B ek _ _ (cn + (1 : Int32)) cap bf cn σ Y _ hk1) rfl rfl (by rw [hR9]; decide) (lw_g_mk tw_826 rfl) (lw_g_mk tw_11 rfl) (by decide) rfl (lw_g_mk tw_823 rfl) rfl (Nat.le_of_ble_eq_true rfl) dJ5_append_3fe6f_7 ⟨by rw [hRc]; omega, by rw [hRs]; omega⟩ (fun v9 σ9 Y9 hp9 => ?_)
  obtain ⟨aV, e7, e8, e9⟩ := hp9
  rw [e7, e8, e9]
  refine x_aload_n C dJ5_append_3fe6f_10 rfl 0 rfl ?_
  obtain ⟨q2, hk2, h⟩ := Option.bind_eq_some_iff.mp h
  refine x_callUE C (As := []) (rest := []) (C1 := "java/lang/StringBuilder") (T := TJ4) (N := 4) (ci := 1) (lw_g_mk tw_855 rfl) (lw_g_mk tw_856 rfl) (C.2.2.2.2.1 _ (lw_g_mk tw_857 rfl)) (wl_ex pu_0) rfl (okT_sbLat l cy D B ek _ _ _ _ q1.1 q1.2 cn σ (Y ++ [cSB aS aV cn, cBy cy aV q1.1 q1.2]) pu_0 pu_1 _ hk2) rfl rfl (by rw [hR9]; decide) (lw_g_mk tw_858 rfl) (lw_g_mk tw_11 rfl) (by decide) rfl (lw_g_mk tw_854 rfl) rfl (Nat.le_of_ble_eq_true rfl) dJ5_append_3fe6f_11 ⟨by rw [hRc]; omega, by rw [hRs]; omega⟩ (fun v9 σ9 Y9 hp9 => ?_)
  obtain ⟨e7, e8, e9⟩ := hp9
  rw [e7, e8, e9]
  have hJ6 : ∀ (r9 : (Nat × (Nat → Int32) × Int32)), jT_sbC0_45 q1 cn = some r9 → (∀ (aV9 : Nat) (cells9 slots9 pc9 : Nat) (lcs9 : List (Nat × Value)), decode cJ5_append_3fe6f pc9 = .ok (.areturn, 1) → cells9 ≤ 1 → slots9 ≤ 2000 → X p l e R s m args below meth c 2 cy D B cells9 slots9 Q pc9 lcs9 [(.ref aS)] σ (Y ++ [cSB aS aV9 r9.2.2, cBy cy aV9 r9.1 r9.2.1])) → X p l e R s m args below meth c 2 cy D B ((0 + 1) + 0) ((0 + 2000) + 0) Q 45 [(0, .ref aS), (1, .int p1)] [] σ (Y ++ [cSB aS aV cn, cBy cy aV q1.1 q1.2]) := by
    intro res9 h hret
    unfold jT_sbC0_45 at h
    refine x_aload_n C dJ5_append_3fe6f_45 rfl 0 rfl ?_
    obtain ⟨q3, hk3, h⟩ := Option.bind_eq_some_iff.mp h
    refine x_callUE C (As := []) (rest := []) (C1 := "java/lang/StringBuilder") (T := TJ4) (N := 4) (ci := 1) (lw_g_mk tw_855 rfl) (lw_g_mk tw_856 rfl) (C.2.2.2.2.1 _ (lw_g_mk tw_857 rfl)) (wl_ex pu_0) rfl (okT_sbLat l cy D B ek _ _ _ _ q1.1 q1.2 cn σ (Y ++ [cSB aS aV cn, cBy cy aV q1.1 q1.2]) pu_0 pu_1 _ hk3) rfl rfl (by rw [hR9]; decide) (lw_g_mk tw_858 rfl) (lw_g_mk tw_11 rfl) (by decide) rfl (lw_g_mk tw_854 rfl) rfl (Nat.le_of_ble_eq_true rfl) dJ5_append_3fe6f_46 ⟨by rw [hRc]; omega, by rw [hRs]; omega⟩ (fun v9 σ9 Y9 hp9 => ?_)
    obtain ⟨e7, e8, e9⟩ := hp9
    rw [e7, e8, e9]
    have hJ4 : ∀ (r9 : (Nat × (Nat → Int32) × Int32)), jT_sbC0_56 = some r9 → (∀ (aV9 : Nat) (cells9 slots9 pc9 : Nat) (lcs9 : List (Nat × Value)), decode cJ5_append_3fe6f pc9 = .ok (.areturn, 1) → cells9 ≤ 1 → slots9 ≤ 2000 → X p l e R s m args below meth c 2 cy D B cells9 slots9 Q pc9 lcs9 [(.ref aS)] σ (Y ++ [cSB aS aV9 r9.2.2, cBy cy aV9 r9.1 r9.2.1])) → X p l e R s m args below meth c 2 cy D B (((0 + 1) + 0) + 0) (((0 + 2000) + 0) + 0) Q 56 [(0, .ref aS), (1, .int p1)] [] σ (Y ++ [cSB aS aV cn, cBy cy aV q1.1 q1.2]) := by
      intro res9 h hret
      unfold jT_sbC0_56 at h
      refine x_aload_n C dJ5_append_3fe6f_56 rfl 0 rfl ?_
      refine x_get C (C1 := "java/lang/StringBuilder") (T := TJ4) (N := 4) (ci := 1) inJg4 _ (wl_ex pu_0) rfl 0 (by decide) (lw_g_mk tw_798 rfl) rfl dJ5_append_3fe6f_57 ?_
      refine x_aload_n C dJ5_append_3fe6f_60 rfl 0 rfl ?_
      refine x_dup C dJ5_append_3fe6f_61 rfl ?_
      refine x_get C (C1 := "java/lang/StringBuilder") (T := TJ4) (N := 4) (ci := 1) inJg4 _ (wl_ex pu_0) rfl 3 (by decide) (lw_g_mk tw_801 rfl) rfl dJ5_append_3fe6f_62 ?_
      refine x_dup_x1 C dJ5_append_3fe6f_65 rfl rfl ?_
      refine x_iconst C (v := 1) dJ5_append_3fe6f_66 (by decide) ?_
      refine x_iadd C dJ5_append_3fe6f_67 ?_
      refine x_put C (C1 := "java/lang/StringBuilder") (T := TJ4) (N := 4) (ci := 1) inJg4 tyJ4 tyJ4_ok nmJ4 _ (wl_ex pu_0) rfl 3 (by decide) (lw_g_mk tw_801 rfl) rfl rfl rfl rfl (Nat.le_of_ble_eq_true rfl) dJ5_append_3fe6f_68 (wl_exs ps_0) ?_
      refine x_iload_n C dJ5_append_3fe6f_71 rfl 1 rfl ?_
      cases h
    refine x_if_eq C (tgt := 56) dJ5_append_3fe6f_49 (by decide) (fun hc5 => ?_) (fun hc5 => ?_)
    · rw [if_pos hc5] at h
      exact hJ4 _ h hret
    · rw [if_neg hc5] at h
      refine x_aload_n C dJ5_append_3fe6f_52 rfl 0 rfl ?_
      cases h
  refine x_if_eq C (tgt := 45) dJ5_append_3fe6f_14 (by decide) (fun hc7 => ?_) (fun hc7 => ?_)
  · rw [if_pos hc7] at h
    exact hJ6 _ h hret
  · rw [if_neg hc7] at h
    refine x_iload_n C dJ5_append_3fe6f_17 rfl 1 rfl ?_
    obtain ⟨q4, hk8, h⟩ := Option.bind_eq_some_iff.mp h
    refine x_callS C (As := [.int p1]) (rest := []) (lw_g_mk tw_917 rfl) (okJ1_canEncode_fc78d l cy D B ek p1 σ (Y ++ [cSB aS aV cn, cBy cy aV q1.1 q1.2]) _ hk8) rfl rfl (by rw [hR9]; decide) (lw_g_mk tw_918 rfl) (lw_g_mk tw_20 rfl) (by decide) rfl (lw_g_mk tw_916 rfl) rfl (Nat.le_of_ble_eq_true rfl) dJ5_append_3fe6f_18 ⟨by rw [hRc]; omega, by rw [hRs]; omega⟩ ?_
    refine x_if_eq C (tgt := 45) dJ5_append_3fe6f_21 (by decide) (fun hc9 => ?_) (fun hc9 => ?_)
    · rw [if_pos hc9] at h
      exact hJ6 _ h hret
    · rw [if_neg hc9] at h
      refine x_aload_n C dJ5_append_3fe6f_24 rfl 0 rfl ?_
      refine x_get C (C1 := "java/lang/StringBuilder") (T := TJ4) (N := 4) (ci := 1) inJg4 _ (wl_ex pu_0) rfl 0 (by decide) (lw_g_mk tw_798 rfl) rfl dJ5_append_3fe6f_25 ?_
      refine x_aload_n C dJ5_append_3fe6f_28 rfl 0 rfl ?_
      refine x_dup C dJ5_append_3fe6f_29 rfl ?_
      refine x_get C (C1 := "java/lang/StringBuilder") (T := TJ4) (N := 4) (ci := 1) inJg4 _ (wl_ex pu_0) rfl 3 (by decide) (lw_g_mk tw_801 rfl) rfl dJ5_append_3fe6f_30 ?_
      refine x_dup_x1 C dJ5_append_3fe6f_33 rfl rfl ?_
      refine x_iconst C (v := 1) dJ5_append_3fe6f_34 (by decide) ?_
      refine x_iadd C dJ5_append_3fe6f_35 ?_
      refine x_put C (C1 := "java/lang/StringBuilder") (T := TJ4) (N := 4) (ci := 1) inJg4 tyJ4 tyJ4_ok nmJ4 _ (wl_ex pu_0) rfl 3 (by decide) (lw_g_mk tw_801 rfl) rfl rfl rfl rfl (Nat.le_of_ble_eq_true rfl) dJ5_append_3fe6f_36 (wl_exs ps_0) ?_
      refine x_iload_n C dJ5_append_3fe6f_39 rfl 1 rfl ?_
      refine x_i2b C dJ5_append_3fe6f_40 ?_
      obtain ⟨hg10, h⟩ := gd_some h
      refine x_bast C _ (wl_ex pu_1) hg10 dJ5_append_3fe6f_41 (wl_exs ps_1) ?_
      refine x_goto C (tgt := 75) dJ5_append_3fe6f_42 (by decide) ?_
      refine x_aload_n C dJ5_append_3fe6f_75 rfl 0 rfl ?_
      obtain rfl := Option.some.inj h
      exact hret aV _ _ _ _ dJ5_append_3fe6f_76 (by omega) (by omega)
def fT_sbC (p1 : Int32) (cap : Nat) (bf : Nat → Int32) (cn : Int32) : Option ((Nat × (Nat → Int32) × Int32)) := ((fT_sbC0 p1 cap bf cn).bind fun q1 => (some (q1.1, q1.2.1, q1.2.2)))
set_option maxHeartbeats 4000000 in
set_option maxRecDepth 100000 in
theorem okT_sbC (l : Launch) (cy : Nat → ClassId) (D : va_G) (B : Nat) (ek : EK) (aS : Nat) (aV : Nat) (p1 : Int32) (cap : Nat) (bf : Nat → Int32) (cn : Int32) (σ : Mem) (Y : va_W) (res : (Nat × (Nat → Int32) × Int32)) (h : fT_sbC p1 cap bf cn = some res) : CTE l cy D B ek yJ4_append_cf468 cJ4_append_cf468 2 (some (.object "java/lang/StringBuilder")) ({ frames := 10, cells := 1, slots := 2000, locals := 211 } : Room) 1 2000 [.ref aS, .int p1] σ (Y ++ [cSB aS aV cn, cBy cy aV cap bf]) (fun v9 σ9 Y9 => ∃ aV9 : Nat, v9 = (some (.ref aS)) ∧ σ9 = σ ∧ Y9 = (Y ++ [cSB aS aV9 res.2.2, cBy cy aV9 res.1 res.2.1])) := by
  refine met_XE (own := "java/lang/StringBuilder") (by decide) rfl (Nat.le_of_ble_eq_true rfl) ?_
  intro p e s m args below meth c C hrT hlk
  have hret : ∀ (aV9 : Nat) (cells9 slots9 pc9 : Nat) (lcs9 : List (Nat × Value)), decode cJ4_append_cf468 pc9 = .ok (.areturn, 1) → cells9 ≤ 1 → slots9 ≤ 2000 → X p l e ({ frames := 10, cells := 1, slots := 2000, locals := 211 } : Room) s m args below meth c 2 cy D B cells9 slots9 (MQ below (QE cy D B (fun v9 σ9 Y9 => ∃ aV9 : Nat, v9 = (some (.ref aS)) ∧ σ9 = σ ∧ Y9 = (Y ++ [cSB aS aV9 res.2.2, cBy cy aV9 res.1 res.2.1]))) args s 1 2000 (aB B)) pc9 lcs9 [(.ref aS)] σ (Y ++ [cSB aS aV9 res.2.2, cBy cy aV9 res.1 res.2.1]) := fun aV9 cells9 slots9 pc9 lcs9 hd h1 h2 => x_aretE C hrT hlk (Or.inl ⟨_, rfl⟩) hd h1 h2 ⟨aV9, rfl, rfl, rfl⟩
  generalize (MQ below (QE cy D B (fun v9 σ9 Y9 => ∃ aV9 : Nat, v9 = (some (.ref aS)) ∧ σ9 = σ ∧ Y9 = (Y ++ [cSB aS aV9 res.2.2, cBy cy aV9 res.1 res.2.1]))) args s 1 2000 (aB B)) = Q at hret ⊢
  obtain ⟨R, hR9⟩ : ∃ R : Room, R = ({ frames := 10, cells := 1, slots := 2000, locals := 211 } : Room) := ⟨_, rfl⟩
  rw [← hR9] at hret ⊢
  have hRc : R.cells = 1 := by rw [hR9]
  have hRs : R.slots = 2000 := by rw [hR9]
  unfold fT_sbC at h
  show X p l e R s m args below meth c 2 cy D B 0 0 Q 0 [(0, .ref aS), (1, .int p1)] [] σ (Y ++ [cSB aS aV cn, cBy cy aV cap bf])
  refine x_aload_n C dJ4_append_cf468_0 rfl 0 rfl ?_
  refine x_iload_n C dJ4_append_cf468_1 rfl 1 rfl ?_
  obtain ⟨q1, hk1, h⟩ := Option.bind_eq_some_iff.mp h
  refine x_callPE C (As := [.int p1]) (rest := []) (lw_g_mk tw_914 rfl) (lw_g_mk tw_1171 rfl) (lw_g_mk tw_810 rfl) (by decide) (wl_ex pu_0) (C1 := "java/lang/StringBuilder") (T := TJ4) (N := 4) (ci := 1) rfl (okT_sbC0 l cy D B ek _ _ p1 cap bf cn σ Y _ hk1) rfl rfl (by rw [hR9]; decide) (lw_g_mk tw_915 rfl) (lw_g_mk tw_11 rfl) (by decide) rfl (lw_g_mk tw_913 rfl) rfl (Nat.le_of_ble_eq_true rfl) dJ4_append_cf468_2 ⟨by rw [hRc]; omega, by rw [hRs]; omega⟩ (fun v9 σ9 Y9 hp9 => ?_)
  obtain ⟨aV, e7, e8, e9⟩ := hp9
  rw [e7, e8, e9]
  refine x_pop C dJ4_append_cf468_5 rfl ?_
  refine x_aload_n C dJ4_append_cf468_6 rfl 0 rfl ?_
  obtain rfl := Option.some.inj h
  exact hret aV _ _ _ _ dJ4_append_cf468_7 (by omega) (by omega)
def fT_sbInf (j1 : Nat) (cap : Nat) (bf : Nat → Int32) (cn : Int32) : Option (Unit) := (if (1 : Int32) = 0 then (some ()) else ((fJ0_coder_7d493 j1).bind fun q1 => (if (0 : Int32) = q1 then (some ()) else none)))
set_option maxHeartbeats 4000000 in
set_option maxRecDepth 100000 in
theorem okT_sbInf (l : Launch) (cy : Nat → ClassId) (D : va_G) (B : Nat) (ek : EK) (aS : Nat) (aV : Nat) (iS : Nat) (iV : Nat) (j1 : Nat) (cap : Nat) (bf : Nat → Int32) (cn : Int32) (σ : Mem) (Y : va_W) (hj1 : j1 < 18) (hSB : Y[iS]? = some (cSB aS aV cn)) (hSV : Y[iV]? = some (cBy cy aV cap bf)) (res : Unit) (h : fT_sbInf j1 cap bf cn = some res) : CTE l cy D B ek yJ5_inflateIfNeededFor_a7421 cJ5_inflateIfNeededFor_a7421 2 none ({ frames := 6, cells := 0, slots := 0, locals := 120 } : Room) 0 0 [.ref aS, .ref (ek.1 j1)] σ Y (fun v9 σ9 Y9 => v9 = none ∧ σ9 = σ ∧ Y9 = Y) := by
  refine met_XE (own := "java/lang/AbstractStringBuilder") (by decide) rfl (Nat.le_of_ble_eq_true rfl) ?_
  intro p e s m args below meth c C hrT hlk
  have hret : ∀ (cells9 slots9 pc9 : Nat) (lcs9 : List (Nat × Value)), decode cJ5_inflateIfNeededFor_a7421 pc9 = .ok (.return_, 1) → cells9 ≤ 0 → slots9 ≤ 0 → X p l e ({ frames := 6, cells := 0, slots := 0, locals := 120 } : Room) s m args below meth c 2 cy D B cells9 slots9 (MQ below (QE cy D B (fun v9 σ9 Y9 => v9 = none ∧ σ9 = σ ∧ Y9 = Y)) args s 0 0 (aB B)) pc9 lcs9 [] σ Y := fun cells9 slots9 pc9 lcs9 hd h1 h2 => x_vretE C hrT hlk hd h1 h2 ⟨rfl, rfl, rfl⟩
  generalize (MQ below (QE cy D B (fun v9 σ9 Y9 => v9 = none ∧ σ9 = σ ∧ Y9 = Y)) args s 0 0 (aB B)) = Q at hret ⊢
  obtain ⟨R, hR9⟩ : ∃ R : Room, R = ({ frames := 6, cells := 0, slots := 0, locals := 120 } : Room) := ⟨_, rfl⟩
  rw [← hR9] at hret ⊢
  have hRc : R.cells = 0 := by rw [hR9]
  have hRs : R.slots = 0 := by rw [hR9]
  unfold fT_sbInf at h
  show X p l e R s m args below meth c 2 cy D B 0 0 Q 0 [(0, .ref aS), (1, .ref (ek.1 j1))] [] σ Y
  refine x_compact C (lw_g_mk tw_790 rfl) dJ5_inflateIfNeededFor_a7421_0 ?_
  refine x_if_eq C (tgt := 21) dJ5_inflateIfNeededFor_a7421_3 (by decide) (fun hc1 => ?_) (fun hc1 => ?_)
  · rw [if_pos hc1] at h
    obtain rfl := Option.some.inj h
    exact hret _ _ _ _ dJ5_inflateIfNeededFor_a7421_21 (by omega) (by omega)
  · rw [if_neg hc1] at h
    refine x_aload_n C dJ5_inflateIfNeededFor_a7421_6 rfl 0 rfl ?_
    refine x_get C (C1 := "java/lang/StringBuilder") (T := TJ4) (N := 4) (ci := 1) inJg4 _ (wl_ex hSB) rfl 1 (by decide) (lw_g_mk tw_799 rfl) rfl dJ5_inflateIfNeededFor_a7421_7 ?_
    refine x_aload_n C dJ5_inflateIfNeededFor_a7421_10 rfl 1 rfl ?_
    obtain ⟨q1, hk2, h⟩ := Option.bind_eq_some_iff.mp h
    refine x_callT C (As := []) (rest := [.int (0 : Int32)]) (i := j1) hj1 (lw_g_mk tw_498 rfl) (lw_g_mk tw_499 rfl) (okJ0_coder_7d493 l cy D B ek j1 σ Y hj1 _ hk2) rfl rfl (by rw [hR9]; decide) (lw_g_mk tw_500 rfl) (lw_g_mk tw_13 rfl) (by decide) rfl (lw_g_mk tw_883 rfl) rfl (Nat.le_of_ble_eq_true rfl) dJ5_inflateIfNeededFor_a7421_11 ⟨by rw [hRc]; omega, by rw [hRs]; omega⟩ ?_
    refine x_icmp_eq C (tgt := 21) dJ5_inflateIfNeededFor_a7421_14 (by decide) (fun hc3 => ?_) (fun hc3 => ?_)
    · rw [if_pos hc3] at h
      obtain rfl := Option.some.inj h
      exact hret _ _ _ _ dJ5_inflateIfNeededFor_a7421_21 (by omega) (by omega)
    · rw [if_neg hc3] at h
      refine x_aload_n C dJ5_inflateIfNeededFor_a7421_17 rfl 0 rfl ?_
      cases h
def fT_stGet (j0 : Nat) (p2 : Int32) (p3 : Int32) (cap : Nat) (bf : Nat → Int32) : Option ((Nat → Int32)) := ((fJ0_coder_7d493 j0).bind fun q1 => (if ¬ q1 = p3 then none else (gd (¬ (p2 <<< (p3 &&& 31)) < 0) (gd (¬ (Int32.ofNat (lenI.getD j0 0)) < 0) (gd ((Int32.ofNat (lenI.getD j0 0)).toNatClampNeg ≤ lenI.getD j0 0) (gd ((p2 <<< (p3 &&& 31)).toNatClampNeg + (Int32.ofNat (lenI.getD j0 0)).toNatClampNeg ≤ cap) (some (va_cpy (fun j => (bytI.getD j0 []).getD j 0) bf 0 (p2 <<< (p3 &&& 31)).toNatClampNeg (Int32.ofNat (lenI.getD j0 0)).toNatClampNeg))))))))
set_option maxHeartbeats 4000000 in
set_option maxRecDepth 100000 in
theorem okT_stGet (l : Launch) (cy : Nat → ClassId) (D : va_G) (B : Nat) (ek : EK) (aV : Nat) (iV : Nat) (j0 : Nat) (p2 : Int32) (p3 : Int32) (cap : Nat) (bf : Nat → Int32) (σ : Mem) (Y : va_W) (hj0 : j0 < 18) (hSV : Y[iV]? = some (cBy cy aV cap bf)) (res : (Nat → Int32)) (h : fT_stGet j0 p2 p3 cap bf = some res) : CTE l cy D B ek yJ0_getBytes_840e7 cJ0_getBytes_840e7 4 none ({ frames := 6, cells := 0, slots := 0, locals := 120 } : Room) 0 0 [.ref (ek.1 j0), .ref aV, .int p2, .int p3] σ Y (fun v9 σ9 Y9 => v9 = none ∧ σ9 = σ ∧ Y9 = (Y.set iV (cBy cy aV cap res))) := by
  refine met_XE (own := "java/lang/String") (by decide) rfl (Nat.le_of_ble_eq_true rfl) ?_
  intro p e s m args below meth c C hrT hlk
  have hret : ∀ (cells9 slots9 pc9 : Nat) (lcs9 : List (Nat × Value)), decode cJ0_getBytes_840e7 pc9 = .ok (.return_, 1) → cells9 ≤ 0 → slots9 ≤ 0 → X p l e ({ frames := 6, cells := 0, slots := 0, locals := 120 } : Room) s m args below meth c 4 cy D B cells9 slots9 (MQ below (QE cy D B (fun v9 σ9 Y9 => v9 = none ∧ σ9 = σ ∧ Y9 = (Y.set iV (cBy cy aV cap res)))) args s 0 0 (aB B)) pc9 lcs9 [] σ (Y.set iV (cBy cy aV cap res)) := fun cells9 slots9 pc9 lcs9 hd h1 h2 => x_vretE C hrT hlk hd h1 h2 ⟨rfl, rfl, rfl⟩
  generalize (MQ below (QE cy D B (fun v9 σ9 Y9 => v9 = none ∧ σ9 = σ ∧ Y9 = (Y.set iV (cBy cy aV cap res)))) args s 0 0 (aB B)) = Q at hret ⊢
  obtain ⟨R, hR9⟩ : ∃ R : Room, R = ({ frames := 6, cells := 0, slots := 0, locals := 120 } : Room) := ⟨_, rfl⟩
  rw [← hR9] at hret ⊢
  have hRc : R.cells = 0 := by rw [hR9]
  have hRs : R.slots = 0 := by rw [hR9]
  unfold fT_stGet at h
  rw [← set_self hSV]
  show X p l e R s m args below meth c 4 cy D B 0 0 Q 0 [(0, .ref (ek.1 j0)), (1, .ref aV), (2, .int p2), (3, .int p3)] [] σ (Y.set iV (cBy cy aV cap bf))
  refine x_aload_n C dJ0_getBytes_840e7_0 rfl 0 rfl ?_
  obtain ⟨q1, hk1, h⟩ := Option.bind_eq_some_iff.mp h
  refine x_callT C (As := []) (rest := []) (i := j0) hj0 (lw_g_mk tw_498 rfl) (lw_g_mk tw_499 rfl) (okJ0_coder_7d493 l cy D B ek j0 σ (Y.set iV (cBy cy aV cap bf)) hj0 _ hk1) rfl rfl (by rw [hR9]; decide) (lw_g_mk tw_500 rfl) (lw_g_mk tw_13 rfl) (by decide) rfl (lw_g_mk tw_497 rfl) rfl (Nat.le_of_ble_eq_true rfl) dJ0_getBytes_840e7_1 ⟨by rw [hRc]; omega, by rw [hRs]; omega⟩ ?_
  refine x_iload_n C dJ0_getBytes_840e7_4 rfl 3 rfl ?_
  refine x_icmp_ne C (tgt := 28) dJ0_getBytes_840e7_5 (by decide) (fun hc2 => ?_) (fun hc2 => ?_)
  · rw [if_pos hc2] at h
    refine x_aload_n C dJ0_getBytes_840e7_28 rfl 0 rfl ?_
    refine x_strV C (i := j0) hj0 (lw_g_mk tw_1010 rfl) dJ0_getBytes_840e7_29 ?_
    refine x_iconst C (v := 0) dJ0_getBytes_840e7_32 (by decide) ?_
    refine x_aload_n C dJ0_getBytes_840e7_33 rfl 1 rfl ?_
    refine x_iload_n C dJ0_getBytes_840e7_34 rfl 2 rfl ?_
    refine x_aload_n C dJ0_getBytes_840e7_35 rfl 0 rfl ?_
    refine x_strV C (i := j0) hj0 (lw_g_mk tw_1010 rfl) dJ0_getBytes_840e7_36 ?_
    refine x_strL C (i := j0) hj0 dJ0_getBytes_840e7_39 ?_
    cases h
  · rw [if_neg hc2] at h
    refine x_aload_n C dJ0_getBytes_840e7_8 rfl 0 rfl ?_
    refine x_strV C (i := j0) hj0 (lw_g_mk tw_1010 rfl) dJ0_getBytes_840e7_9 ?_
    refine x_iconst C (v := 0) dJ0_getBytes_840e7_12 (by decide) ?_
    refine x_aload_n C dJ0_getBytes_840e7_13 rfl 1 rfl ?_
    refine x_iload_n C dJ0_getBytes_840e7_14 rfl 2 rfl ?_
    refine x_iload_n C dJ0_getBytes_840e7_15 rfl 3 rfl ?_
    refine x_ishl C dJ0_getBytes_840e7_16 ?_
    refine x_aload_n C dJ0_getBytes_840e7_17 rfl 0 rfl ?_
    refine x_strV C (i := j0) hj0 (lw_g_mk tw_1010 rfl) dJ0_getBytes_840e7_18 ?_
    refine x_strL C (i := j0) hj0 dJ0_getBytes_840e7_21 ?_
    obtain ⟨hg3, h⟩ := gd_some h
    obtain ⟨hg4, h⟩ := gd_some h
    obtain ⟨hg5, h⟩ := gd_some h
    obtain ⟨hg6, h⟩ := gd_some h
    refine x_copyS C (lw_g_mk tw_907 rfl) (lw_g_mk tw_853 rfl) (lw_g_mk tw_852 rfl) (lw_g_mk tw_18 rfl) _ hj0 (wl_ex (set_at hSV)) rfl hg3 hg4 hg5 hg6 (by rw [hR9]; decide) (by rw [hR9]; exact Nat.le_of_ble_eq_true rfl) dJ0_getBytes_840e7_22 (wl_exs (List.set_set ..)) ?_
    refine x_goto C (tgt := 43) dJ0_getBytes_840e7_25 (by decide) ?_
    obtain rfl := Option.some.inj h
    exact hret _ _ _ _ dJ0_getBytes_840e7_43 (by omega) (by omega)
def fT_sbPut (p1 : Int32) (j2 : Nat) (cap : Nat) (bf : Nat → Int32) (cn : Int32) : Option ((Nat → Int32)) := ((fT_sbInf j2 cap bf cn).bind fun q1 => ((fT_stGet j2 p1 (0 : Int32) cap bf).bind fun q2 => (some q2)))
set_option maxHeartbeats 4000000 in
set_option maxRecDepth 100000 in
theorem okT_sbPut (l : Launch) (cy : Nat → ClassId) (D : va_G) (B : Nat) (ek : EK) (aS : Nat) (aV : Nat) (p1 : Int32) (j2 : Nat) (cap : Nat) (bf : Nat → Int32) (cn : Int32) (σ : Mem) (Y : va_W) (hj2 : j2 < 18) (res : (Nat → Int32)) (h : fT_sbPut p1 j2 cap bf cn = some res) : CTE l cy D B ek yJ5_putStringAt_47b60 cJ5_putStringAt_47b60 3 none ({ frames := 7, cells := 0, slots := 0, locals := 143 } : Room) 0 0 [.ref aS, .int p1, .ref (ek.1 j2)] σ (Y ++ [cSB aS aV cn, cBy cy aV cap bf]) (fun v9 σ9 Y9 => v9 = none ∧ σ9 = σ ∧ Y9 = (Y ++ [cSB aS aV cn, cBy cy aV cap res])) := by
  refine met_XE (own := "java/lang/AbstractStringBuilder") (by decide) rfl (Nat.le_of_ble_eq_true rfl) ?_
  intro p e s m args below meth c C hrT hlk
  have hret : ∀ (cells9 slots9 pc9 : Nat) (lcs9 : List (Nat × Value)), decode cJ5_putStringAt_47b60 pc9 = .ok (.return_, 1) → cells9 ≤ 0 → slots9 ≤ 0 → X p l e ({ frames := 7, cells := 0, slots := 0, locals := 143 } : Room) s m args below meth c 3 cy D B cells9 slots9 (MQ below (QE cy D B (fun v9 σ9 Y9 => v9 = none ∧ σ9 = σ ∧ Y9 = (Y ++ [cSB aS aV cn, cBy cy aV cap res]))) args s 0 0 (aB B)) pc9 lcs9 [] σ (Y ++ [cSB aS aV cn, cBy cy aV cap res]) := fun cells9 slots9 pc9 lcs9 hd h1 h2 => x_vretE C hrT hlk hd h1 h2 ⟨rfl, rfl, rfl⟩
  generalize (MQ below (QE cy D B (fun v9 σ9 Y9 => v9 = none ∧ σ9 = σ ∧ Y9 = (Y ++ [cSB aS aV cn, cBy cy aV cap res]))) args s 0 0 (aB B)) = Q at hret ⊢
  obtain ⟨R, hR9⟩ : ∃ R : Room, R = ({ frames := 7, cells := 0, slots := 0, locals := 143 } : Room) := ⟨_, rfl⟩
  rw [← hR9] at hret ⊢
  have hRc : R.cells = 0 := by rw [hR9]
  have hRs : R.slots = 0 := by rw [hR9]
  unfold fT_sbPut at h
  show X p l e R s m args below meth c 3 cy D B 0 0 Q 0 [(0, .ref aS), (1, .int p1), (2, .ref (ek.1 j2))] [] σ (Y ++ [cSB aS aV cn, cBy cy aV cap bf])
  refine x_aload_n C dJ5_putStringAt_47b60_0 rfl 0 rfl ?_
  refine x_aload_n C dJ5_putStringAt_47b60_1 rfl 2 rfl ?_
  obtain ⟨q1, hk1, h⟩ := Option.bind_eq_some_iff.mp h
  refine x_callUE C (As := [.ref (ek.1 j2)]) (rest := []) (C1 := "java/lang/StringBuilder") (T := TJ4) (N := 4) (ci := 1) (lw_g_mk tw_881 rfl) (lw_g_mk tw_1169 rfl) (hselP C (y := yJ5_inflateIfNeededFor_a7421) (by decide)) (wl_ex pu_0) rfl (okT_sbInf l cy D B ek _ _ _ _ j2 cap bf cn σ (Y ++ [cSB aS aV cn, cBy cy aV cap bf]) hj2 pu_0 pu_1 _ hk1) rfl rfl (by rw [hR9]; decide) (lw_g_mk tw_882 rfl) (lw_g_mk tw_11 rfl) (by decide) rfl (lw_g_mk tw_879 rfl) rfl (Nat.le_of_ble_eq_true rfl) dJ5_putStringAt_47b60_2 ⟨by rw [hRc]; omega, by rw [hRs]; omega⟩ (fun v9 σ9 Y9 hp9 => ?_)
  obtain ⟨e7, e8, e9⟩ := hp9
  rw [e7, e8, e9]
  refine x_aload_n C dJ5_putStringAt_47b60_5 rfl 2 rfl ?_
  refine x_aload_n C dJ5_putStringAt_47b60_6 rfl 0 rfl ?_
  refine x_get C (C1 := "java/lang/StringBuilder") (T := TJ4) (N := 4) (ci := 1) inJg4 _ (wl_ex pu_0) rfl 0 (by decide) (lw_g_mk tw_798 rfl) rfl dJ5_putStringAt_47b60_7 ?_
  refine x_iload_n C dJ5_putStringAt_47b60_10 rfl 1 rfl ?_
  refine x_aload_n C dJ5_putStringAt_47b60_11 rfl 0 rfl ?_
  refine x_get C (C1 := "java/lang/StringBuilder") (T := TJ4) (N := 4) (ci := 1) inJg4 _ (wl_ex pu_0) rfl 1 (by decide) (lw_g_mk tw_799 rfl) rfl dJ5_putStringAt_47b60_12 ?_
  obtain ⟨q2, hk2, h⟩ := Option.bind_eq_some_iff.mp h
  refine x_callTE C (As := [.ref aV, .int p1, .int (0 : Int32)]) (rest := []) (i := j2) hj2 (lw_g_mk tw_904 rfl) (lw_g_mk tw_905 rfl) (okT_stGet l cy D B ek _ _ j2 p1 (0 : Int32) cap bf σ (Y ++ [cSB aS aV cn, cBy cy aV cap bf]) hj2 pu_1 _ hk2) rfl rfl (by rw [hR9]; decide) (lw_g_mk tw_906 rfl) (lw_g_mk tw_13 rfl) (by decide) rfl (lw_g_mk tw_903 rfl) rfl (Nat.le_of_ble_eq_true rfl) dJ5_putStringAt_47b60_15 ⟨by rw [hRc]; omega, by rw [hRs]; omega⟩ (fun v9 σ9 Y9 hp9 => ?_)
  obtain ⟨e7, e8, e9⟩ := hp9
  rw [ps_1] at e9
  rw [e7, e8, e9]
  obtain rfl := Option.some.inj h
  exact hret _ _ _ _ dJ5_putStringAt_47b60_18 (by omega) (by omega)
def fT_sbS0 (j1 : Nat) (cap : Nat) (bf : Nat → Int32) (cn : Int32) : Option ((Nat × (Nat → Int32) × Int32)) := ((fJ0_length_8abf5 j1).bind fun q1 => ((fT_sbEns (cn + q1) cap bf cn).bind fun q2 => ((fT_sbPut cn j1 q2.1 q2.2 cn).bind fun q3 => (some (q2.1, q3, cn + q1)))))
set_option maxHeartbeats 4000000 in
set_option maxRecDepth 100000 in
theorem okT_sbS0 (l : Launch) (cy : Nat → ClassId) (D : va_G) (B : Nat) (ek : EK) (aS : Nat) (aV : Nat) (j1 : Nat) (cap : Nat) (bf : Nat → Int32) (cn : Int32) (σ : Mem) (Y : va_W) (hj1 : j1 < 18) (res : (Nat × (Nat → Int32) × Int32)) (h : fT_sbS0 j1 cap bf cn = some res) : CTE l cy D B ek yJ5_append_cf1ce cJ5_append_cf1ce 3 (some (.object "java/lang/AbstractStringBuilder")) ({ frames := 9, cells := 1, slots := 2000, locals := 190 } : Room) 1 2000 [.ref aS, .ref (ek.1 j1)] σ (Y ++ [cSB aS aV cn, cBy cy aV cap bf]) (fun v9 σ9 Y9 => ∃ aV9 : Nat, v9 = (some (.ref aS)) ∧ σ9 = σ ∧ Y9 = (Y ++ [cSB aS aV9 res.2.2, cBy cy aV9 res.1 res.2.1])) := by
  refine met_XE (own := "java/lang/AbstractStringBuilder") (by decide) rfl (Nat.le_of_ble_eq_true rfl) ?_
  intro p e s m args below meth c C hrT hlk
  have hret : ∀ (aV9 : Nat) (cells9 slots9 pc9 : Nat) (lcs9 : List (Nat × Value)), decode cJ5_append_cf1ce pc9 = .ok (.areturn, 1) → cells9 ≤ 1 → slots9 ≤ 2000 → X p l e ({ frames := 9, cells := 1, slots := 2000, locals := 190 } : Room) s m args below meth c 3 cy D B cells9 slots9 (MQ below (QE cy D B (fun v9 σ9 Y9 => ∃ aV9 : Nat, v9 = (some (.ref aS)) ∧ σ9 = σ ∧ Y9 = (Y ++ [cSB aS aV9 res.2.2, cBy cy aV9 res.1 res.2.1]))) args s 1 2000 (aB B)) pc9 lcs9 [(.ref aS)] σ (Y ++ [cSB aS aV9 res.2.2, cBy cy aV9 res.1 res.2.1]) := fun aV9 cells9 slots9 pc9 lcs9 hd h1 h2 => x_aretE C hrT hlk (Or.inl ⟨_, rfl⟩) hd h1 h2 ⟨aV9, rfl, rfl, rfl⟩
  generalize (MQ below (QE cy D B (fun v9 σ9 Y9 => ∃ aV9 : Nat, v9 = (some (.ref aS)) ∧ σ9 = σ ∧ Y9 = (Y ++ [cSB aS aV9 res.2.2, cBy cy aV9 res.1 res.2.1]))) args s 1 2000 (aB B)) = Q at hret ⊢
  obtain ⟨R, hR9⟩ : ∃ R : Room, R = ({ frames := 9, cells := 1, slots := 2000, locals := 190 } : Room) := ⟨_, rfl⟩
  rw [← hR9] at hret ⊢
  have hRc : R.cells = 1 := by rw [hR9]
  have hRs : R.slots = 2000 := by rw [hR9]
  unfold fT_sbS0 at h
  show X p l e R s m args below meth c 3 cy D B 0 0 Q 0 [(0, .ref aS), (1, .ref (ek.1 j1))] [] σ (Y ++ [cSB aS aV cn, cBy cy aV cap bf])
  refine x_aload_n C dJ5_append_cf1ce_0 rfl 1 rfl ?_
  refine x_ifnonnull C (tgt := 9) dJ5_append_cf1ce_1 (by decide) ?_
  refine x_aload_n C dJ5_append_cf1ce_9 rfl 1 rfl ?_
  obtain ⟨q1, hk1, h⟩ := Option.bind_eq_some_iff.mp h
  refine x_callT C (As := []) (rest := []) (i := j1) hj1 (lw_g_mk tw_494 rfl) (lw_g_mk tw_495 rfl) (okJ0_length_8abf5 l cy D B ek j1 σ (Y ++ [cSB aS aV cn, cBy cy aV cap bf]) hj1 _ hk1) rfl rfl (by rw [hR9]; decide) (lw_g_mk tw_496 rfl) (lw_g_mk tw_13 rfl) (by decide) rfl (lw_g_mk tw_874 rfl) rfl (Nat.le_of_ble_eq_true rfl) dJ5_append_cf1ce_10 ⟨by rw [hRc]; omega, by rw [hRs]; omega⟩ ?_
  refine x_istore_n C [(2, .int q1), (0, .ref aS), (1, .ref (ek.1 j1))] dJ5_append_cf1ce_13 rfl (by decide) rfl ?_
  refine x_aload_n C dJ5_append_cf1ce_14 rfl 1 rfl ?_
  refine x_aload_n C dJ5_append_cf1ce_15 rfl 1 rfl ?_
  refine x_get C (C1 := "java/lang/StringBuilder") (T := TJ4) (N := 4) (ci := 1) inJg4 _ (wl_ex pu_0) rfl 3 (by decide) (lw_g_mk tw_801 rfl) rfl dJ5_append_cf1ce_16 ?_
  refine x_iload_n C dJ5_append_cf1ce_19 rfl 0 rfl ?_
  refine x_iadd C dJ5_append_cf1ce_20 ?_
  obtain ⟨q2, hk2, h⟩ := Option.bind_eq_some_iff.mp h
  refine x_callUE C (As := [.int (cn + q1)]) (rest := []) (C1 := "java/lang/StringBuilder") (T := TJ4) (N := 4) (ci := 1) (lw_g_mk tw_825 rfl) (lw_g_mk tw_1166 rfl) (hselP C (y := yJ5_ensureCapacityInternal_d00df) (by decide)) (wl_ex pu_0) rfl (okT_sbEns l cy D B ek _ _ (cn + q1) cap bf cn σ Y _ hk2) rfl rfl (by rw [hR9]; decide) (lw_g_mk tw_826 rfl) (lw_g_mk tw_11 rfl) (by decide) rfl (lw_g_mk tw_823 rfl) rfl (Nat.le_of_ble_eq_true rfl) dJ5_append_cf1ce_21 ⟨by rw [hRc]; omega, by rw [hRs]; omega⟩ (fun v9 σ9 Y9 hp9 => ?_)
  obtain ⟨aV, e7, e8, e9⟩ := hp9
  rw [e7, e8, e9]
  refine x_aload_n C dJ5_append_cf1ce_24 rfl 1 rfl ?_
  refine x_aload_n C dJ5_append_cf1ce_25 rfl 1 rfl ?_
  refine x_get C (C1 := "java/lang/StringBuilder") (T := TJ4) (N := 4) (ci := 1) inJg4 _ (wl_ex pu_0) rfl 3 (by decide) (lw_g_mk tw_801 rfl) rfl dJ5_append_cf1ce_26 ?_
  refine x_aload_n C dJ5_append_cf1ce_29 rfl 2 rfl ?_
  obtain ⟨q3, hk3, h⟩ := Option.bind_eq_some_iff.mp h
  refine x_callUE C (As := [.int cn, .ref (ek.1 j1)]) (rest := []) (C1 := "java/lang/StringBuilder") (T := TJ4) (N := 4) (ci := 1) (lw_g_mk tw_877 rfl) (lw_g_mk tw_1168 rfl) (hselP C (y := yJ5_putStringAt_47b60) (by decide)) (wl_ex pu_0) rfl (okT_sbPut l cy D B ek _ _ cn j1 q2.1 q2.2 cn σ Y hj1 _ hk3) rfl rfl (by rw [hR9]; decide) (lw_g_mk tw_878 rfl) (lw_g_mk tw_11 rfl) (by decide) rfl (lw_g_mk tw_875 rfl) rfl (Nat.le_of_ble_eq_true rfl) dJ5_append_cf1ce_30 ⟨by rw [hRc]; omega, by rw [hRs]; omega⟩ (fun v9 σ9 Y9 hp9 => ?_)
  obtain ⟨e7, e8, e9⟩ := hp9
  rw [e7, e8, e9]
  refine x_aload_n C dJ5_append_cf1ce_33 rfl 1 rfl ?_
  refine x_dup C dJ5_append_cf1ce_34 rfl ?_
  refine x_get C (C1 := "java/lang/StringBuilder") (T := TJ4) (N := 4) (ci := 1) inJg4 _ (wl_ex pu_0) rfl 3 (by decide) (lw_g_mk tw_801 rfl) rfl dJ5_append_cf1ce_35 ?_
  refine x_iload_n C dJ5_append_cf1ce_38 rfl 0 rfl ?_
  refine x_iadd C dJ5_append_cf1ce_39 ?_
  refine x_put C (C1 := "java/lang/StringBuilder") (T := TJ4) (N := 4) (ci := 1) inJg4 tyJ4 tyJ4_ok nmJ4 _ (wl_ex pu_0) rfl 3 (by decide) (lw_g_mk tw_801 rfl) rfl rfl rfl rfl (Nat.le_of_ble_eq_true rfl) dJ5_append_cf1ce_40 (wl_exs ps_0) ?_
  refine x_aload_n C dJ5_append_cf1ce_43 rfl 1 rfl ?_
  obtain rfl := Option.some.inj h
  exact hret aV _ _ _ _ dJ5_append_cf1ce_44 (by omega) (by omega)
def fT_sbS (j1 : Nat) (cap : Nat) (bf : Nat → Int32) (cn : Int32) : Option ((Nat × (Nat → Int32) × Int32)) := ((fT_sbS0 j1 cap bf cn).bind fun q1 => (some (q1.1, q1.2.1, q1.2.2)))
set_option maxHeartbeats 4000000 in
set_option maxRecDepth 100000 in
theorem okT_sbS (l : Launch) (cy : Nat → ClassId) (D : va_G) (B : Nat) (ek : EK) (aS : Nat) (aV : Nat) (j1 : Nat) (cap : Nat) (bf : Nat → Int32) (cn : Int32) (σ : Mem) (Y : va_W) (hj1 : j1 < 18) (res : (Nat × (Nat → Int32) × Int32)) (h : fT_sbS j1 cap bf cn = some res) : CTE l cy D B ek yJ4_append_15ec4 cJ4_append_15ec4 2 (some (.object "java/lang/StringBuilder")) ({ frames := 10, cells := 1, slots := 2000, locals := 212 } : Room) 1 2000 [.ref aS, .ref (ek.1 j1)] σ (Y ++ [cSB aS aV cn, cBy cy aV cap bf]) (fun v9 σ9 Y9 => ∃ aV9 : Nat, v9 = (some (.ref aS)) ∧ σ9 = σ ∧ Y9 = (Y ++ [cSB aS aV9 res.2.2, cBy cy aV9 res.1 res.2.1])) := by
  refine met_XE (own := "java/lang/StringBuilder") (by decide) rfl (Nat.le_of_ble_eq_true rfl) ?_
  intro p e s m args below meth c C hrT hlk
  have hret : ∀ (aV9 : Nat) (cells9 slots9 pc9 : Nat) (lcs9 : List (Nat × Value)), decode cJ4_append_15ec4 pc9 = .ok (.areturn, 1) → cells9 ≤ 1 → slots9 ≤ 2000 → X p l e ({ frames := 10, cells := 1, slots := 2000, locals := 212 } : Room) s m args below meth c 2 cy D B cells9 slots9 (MQ below (QE cy D B (fun v9 σ9 Y9 => ∃ aV9 : Nat, v9 = (some (.ref aS)) ∧ σ9 = σ ∧ Y9 = (Y ++ [cSB aS aV9 res.2.2, cBy cy aV9 res.1 res.2.1]))) args s 1 2000 (aB B)) pc9 lcs9 [(.ref aS)] σ (Y ++ [cSB aS aV9 res.2.2, cBy cy aV9 res.1 res.2.1]) := fun aV9 cells9 slots9 pc9 lcs9 hd h1 h2 => x_aretE C hrT hlk (Or.inl ⟨_, rfl⟩) hd h1 h2 ⟨aV9, rfl, rfl, rfl⟩
  generalize (MQ below (QE cy D B (fun v9 σ9 Y9 => ∃ aV9 : Nat, v9 = (some (.ref aS)) ∧ σ9 = σ ∧ Y9 = (Y ++ [cSB aS aV9 res.2.2, cBy cy aV9 res.1 res.2.1]))) args s 1 2000 (aB B)) = Q at hret ⊢
  obtain ⟨R, hR9⟩ : ∃ R : Room, R = ({ frames := 10, cells := 1, slots := 2000, locals := 212 } : Room) := ⟨_, rfl⟩
  rw [← hR9] at hret ⊢
  have hRc : R.cells = 1 := by rw [hR9]
  have hRs : R.slots = 2000 := by rw [hR9]
  unfold fT_sbS at h
  show X p l e R s m args below meth c 2 cy D B 0 0 Q 0 [(0, .ref aS), (1, .ref (ek.1 j1))] [] σ (Y ++ [cSB aS aV cn, cBy cy aV cap bf])
  refine x_aload_n C dJ4_append_15ec4_0 rfl 0 rfl ?_
  refine x_aload_n C dJ4_append_15ec4_1 rfl 1 rfl ?_
  obtain ⟨q1, hk1, h⟩ := Option.bind_eq_some_iff.mp h
  refine x_callPE C (As := [.ref (ek.1 j1)]) (rest := []) (lw_g_mk tw_817 rfl) (lw_g_mk tw_1164 rfl) (lw_g_mk tw_810 rfl) (by decide) (wl_ex pu_0) (C1 := "java/lang/StringBuilder") (T := TJ4) (N := 4) (ci := 1) rfl (okT_sbS0 l cy D B ek _ _ j1 cap bf cn σ Y hj1 _ hk1) rfl rfl (by rw [hR9]; decide) (lw_g_mk tw_818 rfl) (lw_g_mk tw_11 rfl) (by decide) rfl (lw_g_mk tw_816 rfl) rfl (Nat.le_of_ble_eq_true rfl) dJ4_append_15ec4_2 ⟨by rw [hRc]; omega, by rw [hRs]; omega⟩ (fun v9 σ9 Y9 hp9 => ?_)
  obtain ⟨aV, e7, e8, e9⟩ := hp9
  rw [e7, e8, e9]
  refine x_pop C dJ4_append_15ec4_5 rfl ?_
  refine x_aload_n C dJ4_append_15ec4_6 rfl 0 rfl ?_
  obtain rfl := Option.some.inj h
  exact hret aV _ _ _ _ dJ4_append_15ec4_7 (by omega) (by omega)
def stT_igc_22 (cap : Nat) (a22 : Int32 × Int32 × (Nat → Int32)) : Option ((Int32 × Int32 × (Nat → Int32)) ⊕ (Int32 × Int32 × (Nat → Int32))) := (if (-100 : Int32) < a22.1 then (some (.inr (a22.1, a22.2.1, a22.2.2))) else (gd (inb (((a22.1 / (100 : Int32)) * (100 : Int32)) - a22.1) 100) (gd (inb (a22.2.1 + (-1 : Int32)) cap) (gd (inb ((a22.2.1 + (-1 : Int32)) + (-1 : Int32)) cap) (some (.inl (a22.1 / (100 : Int32), (a22.2.1 + (-1 : Int32)) + (-1 : Int32), upd (upd a22.2.2 (a22.2.1 + (-1 : Int32)).toNatClampNeg (vp_nar .byte (Int32.ofNat (48 + (((a22.1 / (100 : Int32)) * (100 : Int32)) - a22.1).toNatClampNeg % 10)))) ((a22.2.1 + (-1 : Int32)) + (-1 : Int32)).toNatClampNeg (vp_nar .byte (Int32.ofNat (48 + (((a22.1 / (100 : Int32)) * (100 : Int32)) - a22.1).toNatClampNeg / 10))))))))))
def jT_igc_104 (t1 : Int32) (cap : Nat) (x3 : Int32) (bf4 : (Nat → Int32)) : Option ((Int32 × (Nat → Int32))) := (if t1 = 0 then (some (x3, bf4)) else (gd (inb (x3 + (-1 : Int32)) cap) (some (x3 + (-1 : Int32), upd bf4 (x3 + (-1 : Int32)).toNatClampNeg (vp_nar .byte (45 : Int32))))))
def jT_igc_22 (cap : Nat) (p2 : Int32) (bf : (Nat → Int32)) (t1 : Int32) (x2 : Int32) : Option ((Int32 × (Nat → Int32))) := ((loop (stT_igc_22 cap) 5000 (x2, p2, bf)).bind fun b22 => (gd (inb (-b22.1) 100) (gd (inb (b22.2.1 + (-1 : Int32)) cap) (if (-9 : Int32) ≤ b22.1 then (jT_igc_104 t1 cap (b22.2.1 + (-1 : Int32)) (upd b22.2.2 (b22.2.1 + (-1 : Int32)).toNatClampNeg (vp_nar .byte (Int32.ofNat (48 + (-b22.1).toNatClampNeg % 10))))) else (gd (inb ((b22.2.1 + (-1 : Int32)) + (-1 : Int32)) cap) (jT_igc_104 t1 cap ((b22.2.1 + (-1 : Int32)) + (-1 : Int32)) (upd (upd b22.2.2 (b22.2.1 + (-1 : Int32)).toNatClampNeg (vp_nar .byte (Int32.ofNat (48 + (-b22.1).toNatClampNeg % 10)))) ((b22.2.1 + (-1 : Int32)) + (-1 : Int32)).toNatClampNeg (vp_nar .byte (Int32.ofNat (48 + (-b22.1).toNatClampNeg / 10))))))))))
def jT_igc_12 (cap : Nat) (p2 : Int32) (bf : (Nat → Int32)) (p1 : Int32) (t1 : Int32) : Option ((Int32 × (Nat → Int32))) := (if ¬ t1 = 0 then (jT_igc_22 cap p2 bf t1 p1) else (jT_igc_22 cap p2 bf t1 (-p1)))
def fT_igc (p1 : Int32) (p2 : Int32) (cap : Nat) (bf : Nat → Int32) : Option ((Int32 × (Nat → Int32))) := (if 0 ≤ p1 then (jT_igc_12 cap p2 bf p1 (0 : Int32)) else (jT_igc_12 cap p2 bf p1 (1 : Int32)))
set_option maxHeartbeats 4000000 in
set_option maxRecDepth 100000 in
theorem okT_igc (l : Launch) (cy : Nat → ClassId) (D : va_G) (B : Nat) (ek : EK) (aV : Nat) (iV : Nat) (p1 : Int32) (p2 : Int32) (cap : Nat) (bf : Nat → Int32) (σ : Mem) (Y : va_W) (hSV : Y[iV]? = some (cBy cy aV cap bf)) (res : (Int32 × (Nat → Int32))) (h : fT_igc p1 p2 cap bf = some res) : CTE l cy D B ek yJ6_getChars_ba4f3 cJ6_getChars_ba4f3 7 (some .int) ({ frames := 0, cells := 0, slots := 0, locals := 0 } : Room) 0 0 [.int p1, .int p2, .ref aV] σ Y (fun v9 σ9 Y9 => v9 = (some (.int res.1)) ∧ σ9 = σ ∧ Y9 = (Y.set iV (cBy cy aV cap res.2))) := by
  refine met_XE (own := "java/lang/Integer") (by decide) rfl (Nat.le_of_ble_eq_true rfl) ?_
  intro p e s m args below meth c C hrT hlk
  have hret : ∀ (cells9 slots9 pc9 : Nat) (lcs9 : List (Nat × Value)), decode cJ6_getChars_ba4f3 pc9 = .ok (.ireturn, 1) → narrow .int (.int res.1) = .int res.1 → cells9 ≤ 0 → slots9 ≤ 0 → X p l e ({ frames := 0, cells := 0, slots := 0, locals := 0 } : Room) s m args below meth c 7 cy D B cells9 slots9 (MQ below (QE cy D B (fun v9 σ9 Y9 => v9 = (some (.int res.1)) ∧ σ9 = σ ∧ Y9 = (Y.set iV (cBy cy aV cap res.2)))) args s 0 0 (aB B)) pc9 lcs9 [(.int res.1)] σ (Y.set iV (cBy cy aV cap res.2)) := fun cells9 slots9 pc9 lcs9 hd hn h1 h2 => x_zretE C hrT hlk hn hd h1 h2 ⟨rfl, rfl, rfl⟩
  generalize (MQ below (QE cy D B (fun v9 σ9 Y9 => v9 = (some (.int res.1)) ∧ σ9 = σ ∧ Y9 = (Y.set iV (cBy cy aV cap res.2)))) args s 0 0 (aB B)) = Q at hret ⊢
  obtain ⟨R, hR9⟩ : ∃ R : Room, R = ({ frames := 0, cells := 0, slots := 0, locals := 0 } : Room) := ⟨_, rfl⟩
  rw [← hR9] at hret ⊢
  have hRc : R.cells = 0 := by rw [hR9]
  have hRs : R.slots = 0 := by rw [hR9]
  unfold fT_igc at h
  rw [← set_self hSV]
  show X p l e R s m args below meth c 7 cy D B 0 0 Q 0 [(0, .int p1), (1, .int p2), (2, .ref aV)] [] σ (Y.set iV (cBy cy aV cap bf))
  refine x_iload_n C dJ6_getChars_ba4f3_0 rfl 1 rfl ?_
  refine x_istore C [(5, .int p2), (0, .int p1), (1, .int p2), (2, .ref aV)] dJ6_getChars_ba4f3_1 (by decide) rfl ?_
  refine x_iload_n C dJ6_getChars_ba4f3_3 rfl 1 rfl ?_
  have hJ17 : ∀ (t1 : Int32) (r9 : (Int32 × (Nat → Int32))), jT_igc_12 cap p2 bf p1 t1 = some r9 → (∀ (cells9 slots9 pc9 : Nat) (lcs9 : List (Nat × Value)), decode cJ6_getChars_ba4f3 pc9 = .ok (.ireturn, 1) → narrow .int (.int r9.1) = .int r9.1 → cells9 ≤ 0 → slots9 ≤ 0 → X p l e R s m args below meth c 7 cy D B cells9 slots9 Q pc9 lcs9 [(.int r9.1)] σ (Y.set iV (cBy cy aV cap r9.2))) → X p l e R s m args below meth c 7 cy D B 0 0 Q 12 [(0, .int p1), (2, .ref aV), (5, .int p2)] [.int t1] σ (Y.set iV (cBy cy aV cap bf)) := by
    intro t1 res9 h hret
    unfold jT_igc_12 at h
    refine x_istore C [(6, .int t1), (0, .int p1), (2, .ref aV), (5, .int p2)] dJ6_getChars_ba4f3_12 (by decide) rfl ?_
    refine x_iload C dJ6_getChars_ba4f3_14 0 rfl ?_
    have hJ15 : ∀ (x2 : Int32) (r9 : (Int32 × (Nat → Int32))), jT_igc_22 cap p2 bf t1 x2 = some r9 → (∀ (cells9 slots9 pc9 : Nat) (lcs9 : List (Nat × Value)), decode cJ6_getChars_ba4f3 pc9 = .ok (.ireturn, 1) → narrow .int (.int r9.1) = .int r9.1 → cells9 ≤ 0 → slots9 ≤ 0 → X p l e R s m args below meth c 7 cy D B cells9 slots9 Q pc9 lcs9 [(.int r9.1)] σ (Y.set iV (cBy cy aV cap r9.2))) → X p l e R s m args below meth c 7 cy D B 0 0 Q 22 [(0, .int x2), (2, .ref aV), (5, .int p2), (6, .int t1)] [] σ (Y.set iV (cBy cy aV cap bf)) := by
      intro x2 res9 h hret
      unfold jT_igc_22 at h
      obtain ⟨b22, hk7, h⟩ := Option.bind_eq_some_iff.mp h
      refine loop_run (step := stT_igc_22 cap) (P := fun (a22 : Int32 × Int32 × (Nat → Int32)) => X p l e R s m args below meth c 7 cy D B 0 0 Q 22 [(0, .int a22.1), (2, .ref aV), (5, .int a22.2.1), (6, .int t1)] [] σ (Y.set iV (cBy cy aV cap a22.2.2))) (K := fun (b22 : Int32 × Int32 × (Nat → Int32)) => X p l e R s m args below meth c 7 cy D B 0 0 Q 72 [(0, .int b22.1), (2, .ref aV), (5, .int b22.2.1), (6, .int t1)] [] σ (Y.set iV (cBy cy aV cap b22.2.2))) ?_ 5000 (x2, p2, bf) b22 hk7 ?_
      · intro a22 r h hA1 hB2
        unfold stT_igc_22 at h
        refine x_iload_n C dJ6_getChars_ba4f3_22 rfl 0 rfl ?_
        refine x_bipush C (v := -100) dJ6_getChars_ba4f3_23 (by decide) ?_
        refine x_icmp_gt C (tgt := 72) dJ6_getChars_ba4f3_25 (by decide) (fun hc3 => ?_) (fun hc3 => ?_)
        · rw [if_pos hc3] at h
          cases h
          exact hB2 (a22.1, a22.2.1, a22.2.2) rfl
        · rw [if_neg hc3] at h
          refine x_iload_n C dJ6_getChars_ba4f3_28 rfl 0 rfl ?_
          refine x_bipush C (v := 100) dJ6_getChars_ba4f3_29 (by decide) ?_
          refine x_idiv C dJ6_getChars_ba4f3_31 (by decide) ?_
          refine x_istore_n C [(3, .int (a22.1 / (100 : Int32))), (0, .int a22.1), (2, .ref aV), (5, .int a22.2.1), (6, .int t1)] dJ6_getChars_ba4f3_32 rfl (by decide) rfl ?_
          refine x_iload_n C dJ6_getChars_ba4f3_33 rfl 0 rfl ?_
          refine x_bipush C (v := 100) dJ6_getChars_ba4f3_34 (by decide) ?_
          refine x_imul C dJ6_getChars_ba4f3_36 ?_
          refine x_iload_n C dJ6_getChars_ba4f3_37 rfl 1 rfl ?_
          refine x_isub C dJ6_getChars_ba4f3_38 ?_
          refine x_istore C [(4, .int (((a22.1 / (100 : Int32)) * (100 : Int32)) - a22.1)), (3, .int (a22.1 / (100 : Int32))), (0, .int a22.1), (2, .ref aV), (5, .int a22.2.1), (6, .int t1)] dJ6_getChars_ba4f3_39 (by decide) rfl ?_
          refine x_iload_n C dJ6_getChars_ba4f3_41 rfl 1 rfl ?_
          refine x_istore_n C [(0, .int (a22.1 / (100 : Int32))), (4, .int (((a22.1 / (100 : Int32)) * (100 : Int32)) - a22.1)), (3, .int (a22.1 / (100 : Int32))), (2, .ref aV), (5, .int a22.2.1), (6, .int t1)] dJ6_getChars_ba4f3_42 rfl (by decide) rfl ?_
          refine x_aload_n C dJ6_getChars_ba4f3_43 rfl 3 rfl ?_
          refine x_iinc C (k := 4) [(5, .int (a22.2.1 + (-1 : Int32))), (0, .int (a22.1 / (100 : Int32))), (4, .int (((a22.1 / (100 : Int32)) * (100 : Int32)) - a22.1)), (3, .int (a22.1 / (100 : Int32))), (2, .ref aV), (6, .int t1)] dJ6_getChars_ba4f3_44 rfl rfl (by decide) rfl ?_
          refine x_iload C dJ6_getChars_ba4f3_47 0 rfl ?_
          refine x_digO C (lw_g_mk tw_935 rfl) dJ6_getChars_ba4f3_49 ?_
          refine x_iload C dJ6_getChars_ba4f3_52 2 rfl ?_
          obtain ⟨hg4, h⟩ := gd_some h
          refine x_digOb C hg4 dJ6_getChars_ba4f3_54 ?_
          obtain ⟨hg5, h⟩ := gd_some h
          refine x_bast C _ (wl_ex (set_at hSV)) hg5 dJ6_getChars_ba4f3_55 (wl_exs (List.set_set ..)) ?_
          refine x_aload_n C dJ6_getChars_ba4f3_56 rfl 4 rfl ?_
          refine x_iinc C (k := 0) [(5, .int ((a22.2.1 + (-1 : Int32)) + (-1 : Int32))), (0, .int (a22.1 / (100 : Int32))), (4, .int (((a22.1 / (100 : Int32)) * (100 : Int32)) - a22.1)), (3, .int (a22.1 / (100 : Int32))), (2, .ref aV), (6, .int t1)] dJ6_getChars_ba4f3_57 rfl rfl (by decide) rfl ?_
          refine x_iload C dJ6_getChars_ba4f3_60 0 rfl ?_
          refine x_digT C (lw_g_mk tw_937 rfl) dJ6_getChars_ba4f3_62 ?_
          refine x_iload C dJ6_getChars_ba4f3_65 2 rfl ?_
          refine x_digTb C hg4 dJ6_getChars_ba4f3_67 ?_
          obtain ⟨hg6, h⟩ := gd_some h
          refine x_bast C _ (wl_ex (set_at hSV)) hg6 dJ6_getChars_ba4f3_68 (wl_exs (List.set_set ..)) ?_
          refine x_goto C (tgt := 22) dJ6_getChars_ba4f3_69 (by decide) ?_
          cases h
          refine x_sub [1, 4, 0, 5] rfl ?_
          exact hA1 (a22.1 / (100 : Int32), (a22.2.1 + (-1 : Int32)) + (-1 : Int32), upd (upd a22.2.2 (a22.2.1 + (-1 : Int32)).toNatClampNeg (vp_nar .byte (Int32.ofNat (48 + (((a22.1 / (100 : Int32)) * (100 : Int32)) - a22.1).toNatClampNeg % 10)))) ((a22.2.1 + (-1 : Int32)) + (-1 : Int32)).toNatClampNeg (vp_nar .byte (Int32.ofNat (48 + (((a22.1 / (100 : Int32)) * (100 : Int32)) - a22.1).toNatClampNeg / 10)))) rfl
      · show X p l e R s m args below meth c 7 cy D B 0 0 Q 72 [(0, .int b22.1), (2, .ref aV), (5, .int b22.2.1), (6, .int t1)] [] σ (Y.set iV (cBy cy aV cap b22.2.2))
        refine x_aload_n C dJ6_getChars_ba4f3_72 rfl 1 rfl ?_
        refine x_iinc C (k := 2) [(5, .int (b22.2.1 + (-1 : Int32))), (0, .int b22.1), (2, .ref aV), (6, .int t1)] dJ6_getChars_ba4f3_73 rfl rfl (by decide) rfl ?_
        refine x_iload C dJ6_getChars_ba4f3_76 0 rfl ?_
        refine x_digO C (lw_g_mk tw_935 rfl) dJ6_getChars_ba4f3_78 ?_
        refine x_iload_n C dJ6_getChars_ba4f3_81 rfl 1 rfl ?_
        refine x_ineg C dJ6_getChars_ba4f3_82 ?_
        obtain ⟨hg8, h⟩ := gd_some h
        refine x_digOb C hg8 dJ6_getChars_ba4f3_83 ?_
        obtain ⟨hg9, h⟩ := gd_some h
        refine x_bast C _ (wl_ex (set_at hSV)) hg9 dJ6_getChars_ba4f3_84 (wl_exs (List.set_set ..)) ?_
        refine x_iload_n C dJ6_getChars_ba4f3_85 rfl 1 rfl ?_
        refine x_bipush C (v := -9) dJ6_getChars_ba4f3_86 (by decide) ?_
        have hJ12 : ∀ (x3 : Int32) (bf4 : (Nat → Int32)) (r9 : (Int32 × (Nat → Int32))), jT_igc_104 t1 cap x3 bf4 = some r9 → (∀ (cells9 slots9 pc9 : Nat) (lcs9 : List (Nat × Value)), decode cJ6_getChars_ba4f3 pc9 = .ok (.ireturn, 1) → narrow .int (.int r9.1) = .int r9.1 → cells9 ≤ 0 → slots9 ≤ 0 → X p l e R s m args below meth c 7 cy D B cells9 slots9 Q pc9 lcs9 [(.int r9.1)] σ (Y.set iV (cBy cy aV cap r9.2))) → X p l e R s m args below meth c 7 cy D B 0 0 Q 104 [(2, .ref aV), (5, .int x3), (6, .int t1)] [] σ (Y.set iV (cBy cy aV cap bf4)) := by
          intro x3 bf4 res9 h hret
          unfold jT_igc_104 at h
          refine x_iload C dJ6_getChars_ba4f3_104 2 rfl ?_
          refine x_if_eq C (tgt := 118) dJ6_getChars_ba4f3_106 (by decide) (fun hc10 => ?_) (fun hc10 => ?_)
          · rw [if_pos hc10] at h
            refine x_iload C dJ6_getChars_ba4f3_118 1 rfl ?_
            obtain rfl := Option.some.inj h
            exact hret _ _ _ _ dJ6_getChars_ba4f3_120 rfl (by omega) (by omega)
          · rw [if_neg hc10] at h
            refine x_aload_n C dJ6_getChars_ba4f3_109 rfl 0 rfl ?_
            refine x_iinc C (k := 1) [(5, .int (x3 + (-1 : Int32))), (2, .ref aV), (6, .int t1)] dJ6_getChars_ba4f3_110 rfl rfl (by decide) rfl ?_
            refine x_iload C dJ6_getChars_ba4f3_113 0 rfl ?_
            refine x_bipush C (v := 45) dJ6_getChars_ba4f3_115 (by decide) ?_
            obtain ⟨hg11, h⟩ := gd_some h
            refine x_bast C _ (wl_ex (set_at hSV)) hg11 dJ6_getChars_ba4f3_117 (wl_exs (List.set_set ..)) ?_
            refine x_iload C dJ6_getChars_ba4f3_118 0 rfl ?_
            obtain rfl := Option.some.inj h
            exact hret _ _ _ _ dJ6_getChars_ba4f3_120 rfl (by omega) (by omega)
        refine x_icmp_ge C (tgt := 104) dJ6_getChars_ba4f3_88 (by decide) (fun hc13 => ?_) (fun hc13 => ?_)
        · rw [if_pos hc13] at h
          refine x_sub [2, 0, 3] rfl ?_
          exact hJ12 (b22.2.1 + (-1 : Int32)) (upd b22.2.2 (b22.2.1 + (-1 : Int32)).toNatClampNeg (vp_nar .byte (Int32.ofNat (48 + (-b22.1).toNatClampNeg % 10)))) _ h hret
        · rw [if_neg hc13] at h
          refine x_aload_n C dJ6_getChars_ba4f3_91 rfl 2 rfl ?_
          refine x_iinc C (k := 0) [(5, .int ((b22.2.1 + (-1 : Int32)) + (-1 : Int32))), (0, .int b22.1), (2, .ref aV), (6, .int t1)] dJ6_getChars_ba4f3_92 rfl rfl (by decide) rfl ?_
          refine x_iload C dJ6_getChars_ba4f3_95 0 rfl ?_
          refine x_digT C (lw_g_mk tw_937 rfl) dJ6_getChars_ba4f3_97 ?_
          refine x_iload_n C dJ6_getChars_ba4f3_100 rfl 1 rfl ?_
          refine x_ineg C dJ6_getChars_ba4f3_101 ?_
          refine x_digTb C hg8 dJ6_getChars_ba4f3_102 ?_
          obtain ⟨hg14, h⟩ := gd_some h
          refine x_bast C _ (wl_ex (set_at hSV)) hg14 dJ6_getChars_ba4f3_103 (wl_exs (List.set_set ..)) ?_
          refine x_sub [2, 0, 3] rfl ?_
          exact hJ12 ((b22.2.1 + (-1 : Int32)) + (-1 : Int32)) (upd (upd b22.2.2 (b22.2.1 + (-1 : Int32)).toNatClampNeg (vp_nar .byte (Int32.ofNat (48 + (-b22.1).toNatClampNeg % 10)))) ((b22.2.1 + (-1 : Int32)) + (-1 : Int32)).toNatClampNeg (vp_nar .byte (Int32.ofNat (48 + (-b22.1).toNatClampNeg / 10)))) _ h hret
    refine x_if_ne C (tgt := 22) dJ6_getChars_ba4f3_16 (by decide) (fun hc16 => ?_) (fun hc16 => ?_)
    · rw [if_pos hc16] at h
      refine x_sub [1, 2, 3, 0] rfl ?_
      exact hJ15 p1 _ h hret
    · rw [if_neg hc16] at h
      refine x_iload_n C dJ6_getChars_ba4f3_19 rfl 1 rfl ?_
      refine x_ineg C dJ6_getChars_ba4f3_20 ?_
      refine x_istore_n C [(0, .int (-p1)), (6, .int t1), (2, .ref aV), (5, .int p2)] dJ6_getChars_ba4f3_21 rfl (by decide) rfl ?_
      refine x_sub [0, 2, 3, 1] rfl ?_
      exact hJ15 (-p1) _ h hret
  refine x_if_ge C (tgt := 11) dJ6_getChars_ba4f3_4 (by decide) (fun hc18 => ?_) (fun hc18 => ?_)
  · rw [if_pos hc18] at h
    refine x_iconst C (v := 0) dJ6_getChars_ba4f3_11 (by decide) ?_
    refine x_sub [1, 3, 0] rfl ?_
    exact hJ17 (0 : Int32) _ h hret
  · rw [if_neg hc18] at h
    refine x_iconst C (v := 1) dJ6_getChars_ba4f3_7 (by decide) ?_
    refine x_goto C (tgt := 12) dJ6_getChars_ba4f3_8 (by decide) ?_
    refine x_sub [1, 3, 0] rfl ?_
    exact hJ17 (1 : Int32) _ h hret
def jT_sbI0_48 (q2 : (Nat × (Nat → Int32))) (cn : Int32) (q1 : Int32) (bf4 : (Nat → Int32)) : Option ((Nat × (Nat → Int32) × Int32)) := (some (q2.1, bf4, cn + q1))
def fT_sbI0 (p1 : Int32) (cap : Nat) (bf : Nat → Int32) (cn : Int32) : Option ((Nat × (Nat → Int32) × Int32)) := ((fJ6_stringSize_0f7a4 p1).bind fun q1 => ((fT_sbEns (cn + q1) cap bf cn).bind fun q2 => ((fT_sbLat q2.1 q2.2 cn).bind fun q3 => (if q3 = 0 then none else ((fT_igc p1 (cn + q1) q2.1 q2.2).bind fun q5 => (jT_sbI0_48 q2 cn q1 q5.2))))))
set_option maxHeartbeats 4000000 in
set_option maxRecDepth 100000 in
theorem okT_sbI0 (l : Launch) (cy : Nat → ClassId) (D : va_G) (B : Nat) (ek : EK) (aS : Nat) (aV : Nat) (p1 : Int32) (cap : Nat) (bf : Nat → Int32) (cn : Int32) (σ : Mem) (Y : va_W) (res : (Nat × (Nat → Int32) × Int32)) (h : fT_sbI0 p1 cap bf cn = some res) : CTE l cy D B ek yJ5_append_c97b9 cJ5_append_c97b9 4 (some (.object "java/lang/AbstractStringBuilder")) ({ frames := 9, cells := 1, slots := 2000, locals := 190 } : Room) 1 2000 [.ref aS, .int p1] σ (Y ++ [cSB aS aV cn, cBy cy aV cap bf]) (fun v9 σ9 Y9 => ∃ aV9 : Nat, v9 = (some (.ref aS)) ∧ σ9 = σ ∧ Y9 = (Y ++ [cSB aS aV9 res.2.2, cBy cy aV9 res.1 res.2.1])) := by
  refine met_XE (own := "java/lang/AbstractStringBuilder") (by decide) rfl (Nat.le_of_ble_eq_true rfl) ?_
  intro p e s m args below meth c C hrT hlk
  have hret : ∀ (aV9 : Nat) (cells9 slots9 pc9 : Nat) (lcs9 : List (Nat × Value)), decode cJ5_append_c97b9 pc9 = .ok (.areturn, 1) → cells9 ≤ 1 → slots9 ≤ 2000 → X p l e ({ frames := 9, cells := 1, slots := 2000, locals := 190 } : Room) s m args below meth c 4 cy D B cells9 slots9 (MQ below (QE cy D B (fun v9 σ9 Y9 => ∃ aV9 : Nat, v9 = (some (.ref aS)) ∧ σ9 = σ ∧ Y9 = (Y ++ [cSB aS aV9 res.2.2, cBy cy aV9 res.1 res.2.1]))) args s 1 2000 (aB B)) pc9 lcs9 [(.ref aS)] σ (Y ++ [cSB aS aV9 res.2.2, cBy cy aV9 res.1 res.2.1]) := fun aV9 cells9 slots9 pc9 lcs9 hd h1 h2 => x_aretE C hrT hlk (Or.inl ⟨_, rfl⟩) hd h1 h2 ⟨aV9, rfl, rfl, rfl⟩
  generalize (MQ below (QE cy D B (fun v9 σ9 Y9 => ∃ aV9 : Nat, v9 = (some (.ref aS)) ∧ σ9 = σ ∧ Y9 = (Y ++ [cSB aS aV9 res.2.2, cBy cy aV9 res.1 res.2.1]))) args s 1 2000 (aB B)) = Q at hret ⊢
  obtain ⟨R, hR9⟩ : ∃ R : Room, R = ({ frames := 9, cells := 1, slots := 2000, locals := 190 } : Room) := ⟨_, rfl⟩
  rw [← hR9] at hret ⊢
  have hRc : R.cells = 1 := by rw [hR9]
  have hRs : R.slots = 2000 := by rw [hR9]
  unfold fT_sbI0 at h
  show X p l e R s m args below meth c 4 cy D B 0 0 Q 0 [(0, .ref aS), (1, .int p1)] [] σ (Y ++ [cSB aS aV cn, cBy cy aV cap bf])
  refine x_aload_n C dJ5_append_c97b9_0 rfl 0 rfl ?_
  refine x_get C (C1 := "java/lang/StringBuilder") (T := TJ4) (N := 4) (ci := 1) inJg4 _ (wl_ex pu_0) rfl 3 (by decide) (lw_g_mk tw_801 rfl) rfl dJ5_append_c97b9_1 ?_
  refine x_istore_n C [(2, .int cn), (0, .ref aS), (1, .int p1)] dJ5_append_c97b9_4 rfl (by decide) rfl ?_
  refine x_iload_n C dJ5_append_c97b9_5 rfl 0 rfl ?_
  refine x_iload_n C dJ5_append_c97b9_6 rfl 2 rfl ?_
  obtain ⟨q1, hk1, h⟩ := Option.bind_eq_some_iff.mp h
  refine x_callS C (As := [.int p1]) (rest := [.int cn]) (lw_g_mk tw_930 rfl) (okJ6_stringSize_0f7a4 l cy D B ek p1 σ (Y ++ [cSB aS aV cn, cBy cy aV cap bf]) _ hk1) rfl rfl (by rw [hR9]; decide) (lw_g_mk tw_931 rfl) (lw_g_mk tw_22 rfl) (by decide) rfl (lw_g_mk tw_929 rfl) rfl (Nat.le_of_ble_eq_true rfl) dJ5_append_c97b9_7 ⟨by rw [hRc]; omega, by rw [hRs]; omega⟩ ?_
  refine x_iadd C dJ5_append_c97b9_10 ?_
  refine x_istore_n C [(3, .int (cn + q1)), (2, .int cn), (0, .ref aS), (1, .int p1)] dJ5_append_c97b9_11 rfl (by decide) rfl ?_
  refine x_aload_n C dJ5_append_c97b9_12 rfl 2 rfl ?_
  refine x_iload_n C dJ5_append_c97b9_13 rfl 0 rfl ?_
  obtain ⟨q2, hk2, h⟩ := Option.bind_eq_some_iff.mp h
  refine x_callUE C (As := [.int (cn + q1)]) (rest := []) (C1 := "java/lang/StringBuilder") (T := TJ4) (N := 4) (ci := 1) (lw_g_mk tw_825 rfl) (lw_g_mk tw_1166 rfl) (hselP C (y := yJ5_ensureCapacityInternal_d00df) (by decide)) (wl_ex pu_0) rfl (okT_sbEns l cy D B ek _ _ (cn + q1) cap bf cn σ Y _ hk2) rfl rfl (by rw [hR9]; decide) (lw_g_mk tw_826 rfl) (lw_g_mk tw_11 rfl) (by decide) rfl (lw_g_mk tw_823 rfl) rfl (Nat.le_of_ble_eq_true rfl) dJ5_append_c97b9_14 ⟨by rw [hRc]; omega, by rw [hRs]; omega⟩ (fun v9 σ9 Y9 hp9 => ?_)
  obtain ⟨aV, e7, e8, e9⟩ := hp9
  rw [e7, e8, e9]
  refine x_aload_n C dJ5_append_c97b9_17 rfl 2 rfl ?_
  obtain ⟨q3, hk3, h⟩ := Option.bind_eq_some_iff.mp h
  refine x_callUE C (As := []) (rest := []) (C1 := "java/lang/StringBuilder") (T := TJ4) (N := 4) (ci := 1) (lw_g_mk tw_855 rfl) (lw_g_mk tw_856 rfl) (C.2.2.2.2.1 _ (lw_g_mk tw_857 rfl)) (wl_ex pu_0) rfl (okT_sbLat l cy D B ek _ _ _ _ q2.1 q2.2 cn σ (Y ++ [cSB aS aV cn, cBy cy aV q2.1 q2.2]) pu_0 pu_1 _ hk3) rfl rfl (by rw [hR9]; decide) (lw_g_mk tw_858 rfl) (lw_g_mk tw_11 rfl) (by decide) rfl (lw_g_mk tw_854 rfl) rfl (Nat.le_of_ble_eq_true rfl) dJ5_append_c97b9_18 ⟨by rw [hRc]; omega, by rw [hRs]; omega⟩ (fun v9 σ9 Y9 hp9 => ?_)
  obtain ⟨e7, e8, e9⟩ := hp9
  rw [e7, e8, e9]
  have hJ4 : ∀ (bf4 : (Nat → Int32)) (r9 : (Nat × (Nat → Int32) × Int32)), jT_sbI0_48 q2 cn q1 bf4 = some r9 → (∀ (aV9 : Nat) (cells9 slots9 pc9 : Nat) (lcs9 : List (Nat × Value)), decode cJ5_append_c97b9 pc9 = .ok (.areturn, 1) → cells9 ≤ 1 → slots9 ≤ 2000 → X p l e R s m args below meth c 4 cy D B cells9 slots9 Q pc9 lcs9 [(.ref aS)] σ (Y ++ [cSB aS aV9 r9.2.2, cBy cy aV9 r9.1 r9.2.1])) → X p l e R s m args below meth c 4 cy D B ((0 + 1) + 0) ((0 + 2000) + 0) Q 48 [(0, .ref aS), (3, .int (cn + q1))] [] σ (Y ++ [cSB aS aV cn, cBy cy aV q2.1 bf4]) := by
    intro bf4 res9 h hret
    unfold jT_sbI0_48 at h
    refine x_aload_n C dJ5_append_c97b9_48 rfl 0 rfl ?_
    refine x_iload_n C dJ5_append_c97b9_49 rfl 1 rfl ?_
    refine x_put C (C1 := "java/lang/StringBuilder") (T := TJ4) (N := 4) (ci := 1) inJg4 tyJ4 tyJ4_ok nmJ4 _ (wl_ex pu_0) rfl 3 (by decide) (lw_g_mk tw_801 rfl) rfl rfl rfl rfl (Nat.le_of_ble_eq_true rfl) dJ5_append_c97b9_50 (wl_exs ps_0) ?_
    refine x_aload_n C dJ5_append_c97b9_53 rfl 0 rfl ?_
    obtain rfl := Option.some.inj h
    exact hret aV _ _ _ _ dJ5_append_c97b9_54 (by omega) (by omega)
  refine x_if_eq C (tgt := 37) dJ5_append_c97b9_21 (by decide) (fun hc5 => ?_) (fun hc5 => ?_)
  · rw [if_pos hc5] at h
    refine x_iload_n C dJ5_append_c97b9_37 rfl 3 rfl ?_
    refine x_iload_n C dJ5_append_c97b9_38 rfl 1 rfl ?_
    refine x_iload_n C dJ5_append_c97b9_39 rfl 0 rfl ?_
    refine x_aload_n C dJ5_append_c97b9_40 rfl 2 rfl ?_
    refine x_get C (C1 := "java/lang/StringBuilder") (T := TJ4) (N := 4) (ci := 1) inJg4 _ (wl_ex pu_0) rfl 0 (by decide) (lw_g_mk tw_798 rfl) rfl dJ5_append_c97b9_41 ?_
    cases h
  · rw [if_neg hc5] at h
    refine x_iload_n C dJ5_append_c97b9_24 rfl 3 rfl ?_
    refine x_iload_n C dJ5_append_c97b9_25 rfl 0 rfl ?_
    refine x_aload_n C dJ5_append_c97b9_26 rfl 2 rfl ?_
    refine x_get C (C1 := "java/lang/StringBuilder") (T := TJ4) (N := 4) (ci := 1) inJg4 _ (wl_ex pu_0) rfl 0 (by decide) (lw_g_mk tw_798 rfl) rfl dJ5_append_c97b9_27 ?_
    obtain ⟨q5, hk6, h⟩ := Option.bind_eq_some_iff.mp h
    refine x_callSE C (As := [.int p1, .int (cn + q1), .ref aV]) (rest := []) (lw_g_mk tw_933 rfl) (okT_igc l cy D B ek _ _ p1 (cn + q1) q2.1 q2.2 σ (Y ++ [cSB aS aV cn, cBy cy aV q2.1 q2.2]) pu_1 _ hk6) rfl rfl (by rw [hR9]; decide) (lw_g_mk tw_934 rfl) (lw_g_mk tw_22 rfl) (by decide) rfl (lw_g_mk tw_932 rfl) rfl (Nat.le_of_ble_eq_true rfl) dJ5_append_c97b9_30 ⟨by rw [hRc]; omega, by rw [hRs]; omega⟩ (fun v9 σ9 Y9 hp9 => ?_)
    obtain ⟨e7, e8, e9⟩ := hp9
    rw [ps_1] at e9
    rw [e7, e8, e9]
    refine x_pop C dJ5_append_c97b9_33 rfl ?_
    refine x_goto C (tgt := 48) dJ5_append_c97b9_34 (by decide) ?_
    refine x_widen (cells2 := ((0 + 1) + 0)) (slots2 := ((0 + 2000) + 0)) (by omega) (by omega) ?_
    refine x_sub [2, 0] rfl ?_
    exact hJ4 q5.2 _ h hret
def fT_sbI (p1 : Int32) (cap : Nat) (bf : Nat → Int32) (cn : Int32) : Option ((Nat × (Nat → Int32) × Int32)) := ((fT_sbI0 p1 cap bf cn).bind fun q1 => (some (q1.1, q1.2.1, q1.2.2)))
set_option maxHeartbeats 4000000 in
set_option maxRecDepth 100000 in
theorem okT_sbI (l : Launch) (cy : Nat → ClassId) (D : va_G) (B : Nat) (ek : EK) (aS : Nat) (aV : Nat) (p1 : Int32) (cap : Nat) (bf : Nat → Int32) (cn : Int32) (σ : Mem) (Y : va_W) (res : (Nat × (Nat → Int32) × Int32)) (h : fT_sbI p1 cap bf cn = some res) : CTE l cy D B ek yJ4_append_bf812 cJ4_append_bf812 2 (some (.object "java/lang/StringBuilder")) ({ frames := 10, cells := 1, slots := 2000, locals := 213 } : Room) 1 2000 [.ref aS, .int p1] σ (Y ++ [cSB aS aV cn, cBy cy aV cap bf]) (fun v9 σ9 Y9 => ∃ aV9 : Nat, v9 = (some (.ref aS)) ∧ σ9 = σ ∧ Y9 = (Y ++ [cSB aS aV9 res.2.2, cBy cy aV9 res.1 res.2.1])) := by
  refine met_XE (own := "java/lang/StringBuilder") (by decide) rfl (Nat.le_of_ble_eq_true rfl) ?_
  intro p e s m args below meth c C hrT hlk
  have hret : ∀ (aV9 : Nat) (cells9 slots9 pc9 : Nat) (lcs9 : List (Nat × Value)), decode cJ4_append_bf812 pc9 = .ok (.areturn, 1) → cells9 ≤ 1 → slots9 ≤ 2000 → X p l e ({ frames := 10, cells := 1, slots := 2000, locals := 213 } : Room) s m args below meth c 2 cy D B cells9 slots9 (MQ below (QE cy D B (fun v9 σ9 Y9 => ∃ aV9 : Nat, v9 = (some (.ref aS)) ∧ σ9 = σ ∧ Y9 = (Y ++ [cSB aS aV9 res.2.2, cBy cy aV9 res.1 res.2.1]))) args s 1 2000 (aB B)) pc9 lcs9 [(.ref aS)] σ (Y ++ [cSB aS aV9 res.2.2, cBy cy aV9 res.1 res.2.1]) := fun aV9 cells9 slots9 pc9 lcs9 hd h1 h2 => x_aretE C hrT hlk (Or.inl ⟨_, rfl⟩) hd h1 h2 ⟨aV9, rfl, rfl, rfl⟩
  generalize (MQ below (QE cy D B (fun v9 σ9 Y9 => ∃ aV9 : Nat, v9 = (some (.ref aS)) ∧ σ9 = σ ∧ Y9 = (Y ++ [cSB aS aV9 res.2.2, cBy cy aV9 res.1 res.2.1]))) args s 1 2000 (aB B)) = Q at hret ⊢
  obtain ⟨R, hR9⟩ : ∃ R : Room, R = ({ frames := 10, cells := 1, slots := 2000, locals := 213 } : Room) := ⟨_, rfl⟩
  rw [← hR9] at hret ⊢
  have hRc : R.cells = 1 := by rw [hR9]
  have hRs : R.slots = 2000 := by rw [hR9]
  unfold fT_sbI at h
  show X p l e R s m args below meth c 2 cy D B 0 0 Q 0 [(0, .ref aS), (1, .int p1)] [] σ (Y ++ [cSB aS aV cn, cBy cy aV cap bf])
  refine x_aload_n C dJ4_append_bf812_0 rfl 0 rfl ?_
  refine x_iload_n C dJ4_append_bf812_1 rfl 1 rfl ?_
  obtain ⟨q1, hk1, h⟩ := Option.bind_eq_some_iff.mp h
  refine x_callPE C (As := [.int p1]) (rest := []) (lw_g_mk tw_927 rfl) (lw_g_mk tw_1172 rfl) (lw_g_mk tw_810 rfl) (by decide) (wl_ex pu_0) (C1 := "java/lang/StringBuilder") (T := TJ4) (N := 4) (ci := 1) rfl (okT_sbI0 l cy D B ek _ _ p1 cap bf cn σ Y _ hk1) rfl rfl (by rw [hR9]; decide) (lw_g_mk tw_928 rfl) (lw_g_mk tw_11 rfl) (by decide) rfl (lw_g_mk tw_926 rfl) rfl (Nat.le_of_ble_eq_true rfl) dJ4_append_bf812_2 ⟨by rw [hRc]; omega, by rw [hRs]; omega⟩ (fun v9 σ9 Y9 hp9 => ?_)
  obtain ⟨aV, e7, e8, e9⟩ := hp9
  rw [e7, e8, e9]
  refine x_pop C dJ4_append_bf812_5 rfl ?_
  refine x_aload_n C dJ4_append_bf812_6 rfl 0 rfl ?_
  obtain rfl := Option.some.inj h
  exact hret aV _ _ _ _ dJ4_append_bf812_7 (by omega) (by omega)
def fT_sbIn0 (p1 : Int32) : Option ((Nat × (Nat → Int32))) := (if (1 : Int32) = 0 then none else (gd (¬ p1 < 0) (gd (p1.toNatClampNeg ≤ 2000) (some (p1.toNatClampNeg, (fun _ => 0))))))
set_option maxHeartbeats 4000000 in
set_option maxRecDepth 100000 in
theorem okT_sbIn0 (l : Launch) (cy : Nat → ClassId) (D : va_G) (B : Nat) (ek : EK) (aS : Nat) (p1 : Int32) (σ : Mem) (Y : va_W) (res : (Nat × (Nat → Int32))) (h : fT_sbIn0 p1 = some res) : CTE l cy D B ek yJ5_init_d00df cJ5_init_d00df 2 none ({ frames := 6, cells := 1, slots := 2000, locals := 120 } : Room) 1 2000 [.ref aS, .int p1] σ (Y ++ [cS0 aS .null]) (fun v9 σ9 Y9 => ∃ aV9 : Nat, v9 = none ∧ σ9 = σ ∧ Y9 = (Y ++ [cSB aS aV9 0, cBy cy aV9 res.1 res.2])) := by
  refine met_XEN (own := "java/lang/AbstractStringBuilder") (by decide) rfl (Nat.le_of_ble_eq_true rfl) ?_
  intro p e s m args below meth c C hrT hlk hin9
  have hret : ∀ (aV9 : Nat) (cells9 slots9 pc9 : Nat) (lcs9 : List (Nat × Value)), decode cJ5_init_d00df pc9 = .ok (.return_, 1) → cells9 ≤ 1 → slots9 ≤ 2000 → X p l e ({ frames := 6, cells := 1, slots := 2000, locals := 120 } : Room) s m args below meth c 2 cy D B cells9 slots9 (MQ below (QE cy D B (fun v9 σ9 Y9 => ∃ aV9 : Nat, v9 = none ∧ σ9 = σ ∧ Y9 = (Y ++ [cSB aS aV9 0, cBy cy aV9 res.1 res.2]))) args s 1 2000 (aB B)) pc9 lcs9 [] σ (Y ++ [cSB aS aV9 0, cBy cy aV9 res.1 res.2]) := fun aV9 cells9 slots9 pc9 lcs9 hd h1 h2 => x_vretE C hrT hlk hd h1 h2 ⟨aV9, rfl, rfl, rfl⟩
  generalize (MQ below (QE cy D B (fun v9 σ9 Y9 => ∃ aV9 : Nat, v9 = none ∧ σ9 = σ ∧ Y9 = (Y ++ [cSB aS aV9 0, cBy cy aV9 res.1 res.2]))) args s 1 2000 (aB B)) = Q at hret ⊢
  obtain ⟨R, hR9⟩ : ∃ R : Room, R = ({ frames := 6, cells := 1, slots := 2000, locals := 120 } : Room) := ⟨_, rfl⟩
  rw [← hR9] at hret ⊢
  have hRc : R.cells = 1 := by rw [hR9]
  have hRs : R.slots = 2000 := by rw [hR9]
  unfold fT_sbIn0 at h
  show X p l e R s m args below meth c 2 cy D B 0 0 Q 0 [(0, .ref aS), (1, .int p1)] [] σ (Y ++ [cS0 aS .null])
  refine x_aload_n C dJ5_init_d00df_0 rfl 0 rfl ?_
  refine x_obj C (lw_g_mk tw_789 rfl) (lw_g_mk tw_32 rfl) (lw_g_mk tw_33 rfl) (by rw [hR9]; decide) (by rw [hR9]; exact Nat.le_of_ble_eq_true rfl) dJ5_init_d00df_1 ?_
  refine x_compact C (lw_g_mk tw_790 rfl) dJ5_init_d00df_4 ?_
  refine x_if_eq C (tgt := 25) dJ5_init_d00df_7 (by decide) (fun hc1 => ?_) (fun hc1 => ?_)
  · rw [if_pos hc1] at h
    refine x_aload_n C dJ5_init_d00df_25 rfl 0 rfl ?_
    refine x_iload_n C dJ5_init_d00df_26 rfl 1 rfl ?_
    cases h
  · rw [if_neg hc1] at h
    refine x_aload_n C dJ5_init_d00df_10 rfl 0 rfl ?_
    refine x_iload_n C dJ5_init_d00df_11 rfl 1 rfl ?_
    obtain ⟨hg2, h⟩ := gd_some h
    obtain ⟨hg3, h⟩ := gd_some h
    refine x_newBv C (lw_g_mk tw_63 rfl) hg2 hg3 (by rw [hRc]; omega) (by rw [hRs]; omega) dJ5_init_d00df_12 (fun aN => ?_)
    rw [List.append_assoc]
    refine x_put C (C1 := "java/lang/StringBuilder") (T := TJ4) (N := 4) (ci := 1) inJg4 tyJ4 tyJ4_ok nmJ4 _ (wl_ex pu_0) rfl 0 (by decide) (lw_g_mk tw_798 rfl) rfl rfl rfl rfl (Nat.le_of_ble_eq_true rfl) dJ5_init_d00df_14 (wl_exs ps_0) ?_
    refine x_aload_n C dJ5_init_d00df_17 rfl 0 rfl ?_
    refine x_iconst C (v := 0) dJ5_init_d00df_18 (by decide) ?_
    refine x_put C (C1 := "java/lang/StringBuilder") (T := TJ4) (N := 4) (ci := 1) inJg4 tyJ4 tyJ4_ok nmJ4 _ (wl_ex pu_0) rfl 1 (by decide) (lw_g_mk tw_799 rfl) rfl rfl rfl rfl (Nat.le_of_ble_eq_true rfl) dJ5_init_d00df_19 (wl_exs ps_0) ?_
    refine x_goto C (tgt := 38) dJ5_init_d00df_22 (by decide) ?_
    obtain rfl := Option.some.inj h
    exact hret aN _ _ _ _ dJ5_init_d00df_38 (by omega) (by omega)
def fT_sbIn : Option ((Nat × (Nat → Int32))) := ((fT_sbIn0 (16 : Int32)).bind fun q1 => (some (q1.1, q1.2)))
set_option maxHeartbeats 4000000 in
set_option maxRecDepth 100000 in
theorem okT_sbIn (l : Launch) (cy : Nat → ClassId) (D : va_G) (B : Nat) (ek : EK) (aS : Nat) (σ : Mem) (Y : va_W) (res : (Nat × (Nat → Int32))) (h : fT_sbIn = some res) : CTE l cy D B ek yJ4_init_da8c8 cJ4_init_da8c8 1 none ({ frames := 7, cells := 1, slots := 2000, locals := 141 } : Room) 1 2000 [.ref aS] σ (Y ++ [cS0 aS .null]) (fun v9 σ9 Y9 => ∃ aV9 : Nat, v9 = none ∧ σ9 = σ ∧ Y9 = (Y ++ [cSB aS aV9 0, cBy cy aV9 res.1 res.2])) := by
  refine met_XEN (own := "java/lang/StringBuilder") (by decide) rfl (Nat.le_of_ble_eq_true rfl) ?_
  intro p e s m args below meth c C hrT hlk hin9
  have hret : ∀ (aV9 : Nat) (cells9 slots9 pc9 : Nat) (lcs9 : List (Nat × Value)), decode cJ4_init_da8c8 pc9 = .ok (.return_, 1) → cells9 ≤ 1 → slots9 ≤ 2000 → X p l e ({ frames := 7, cells := 1, slots := 2000, locals := 141 } : Room) s m args below meth c 1 cy D B cells9 slots9 (MQ below (QE cy D B (fun v9 σ9 Y9 => ∃ aV9 : Nat, v9 = none ∧ σ9 = σ ∧ Y9 = (Y ++ [cSB aS aV9 0, cBy cy aV9 res.1 res.2]))) args s 1 2000 (aB B)) pc9 lcs9 [] σ (Y ++ [cSB aS aV9 0, cBy cy aV9 res.1 res.2]) := fun aV9 cells9 slots9 pc9 lcs9 hd h1 h2 => x_vretE C hrT hlk hd h1 h2 ⟨aV9, rfl, rfl, rfl⟩
  generalize (MQ below (QE cy D B (fun v9 σ9 Y9 => ∃ aV9 : Nat, v9 = none ∧ σ9 = σ ∧ Y9 = (Y ++ [cSB aS aV9 0, cBy cy aV9 res.1 res.2]))) args s 1 2000 (aB B)) = Q at hret ⊢
  obtain ⟨R, hR9⟩ : ∃ R : Room, R = ({ frames := 7, cells := 1, slots := 2000, locals := 141 } : Room) := ⟨_, rfl⟩
  rw [← hR9] at hret ⊢
  have hRc : R.cells = 1 := by rw [hR9]
  have hRs : R.slots = 2000 := by rw [hR9]
  unfold fT_sbIn at h
  show X p l e R s m args below meth c 1 cy D B 0 0 Q 0 [(0, .ref aS)] [] σ (Y ++ [cS0 aS .null])
  refine x_aload_n C dJ4_init_da8c8_0 rfl 0 rfl ?_
  refine x_bipush C (v := 16) dJ4_init_da8c8_1 (by decide) ?_
  obtain ⟨q1, hk1, h⟩ := Option.bind_eq_some_iff.mp h
  refine x_callIE C (As := [.int (16 : Int32)]) (rest := []) (lw_g_mk tw_787 rfl) rfl (okT_sbIn0 l cy D B ek _ (16 : Int32) σ Y _ hk1) rfl rfl (by rw [hR9]; decide) (lw_g_mk tw_788 rfl) (lw_g_mk tw_11 rfl) (by decide) rfl (lw_g_mk tw_786 rfl) rfl (Nat.le_of_ble_eq_true rfl) dJ4_init_da8c8_3 ⟨by rw [hRc]; omega, by rw [hRs]; omega⟩ (fun v9 σ9 Y9 hp9 => ?_)
  obtain ⟨aV, e7, e8, e9⟩ := hp9
  rw [e7, e8, e9]
  obtain rfl := Option.some.inj h
  exact hret aV _ _ _ _ dJ4_init_da8c8_6 (by omega) (by omega)
def fT_cpRb (p2 : Int32) (p3 : Int32) (cap : Nat) (bf : Nat → Int32) : Option ((Nat × (Nat → Int32))) := ((fJ7_checkLength_df160 p2 p3).bind fun q1 => (gd (¬ (p3 - p2) < 0) (gd ((p3 - p2).toNatClampNeg ≤ 2000) (gd (¬ (0 : Int32) < 0) (gd (¬ (if (p3 - p2) < ((Int32.ofNat cap) - p2) then (p3 - p2) else ((Int32.ofNat cap) - p2)) < 0) (gd (¬ p2 < 0) (gd (p2.toNatClampNeg + (if (p3 - p2) < ((Int32.ofNat cap) - p2) then (p3 - p2) else ((Int32.ofNat cap) - p2)).toNatClampNeg ≤ cap) (gd ((0 : Int32).toNatClampNeg + (if (p3 - p2) < ((Int32.ofNat cap) - p2) then (p3 - p2) else ((Int32.ofNat cap) - p2)).toNatClampNeg ≤ ((p3 - p2).toNatClampNeg)) (gd (∀ i, i < (if (p3 - p2) < ((Int32.ofNat cap) - p2) then (p3 - p2) else ((Int32.ofNat cap) - p2)).toNatClampNeg → fits .byte (.int (bf (p2.toNatClampNeg + i))) = true) (some ((p3 - p2).toNatClampNeg, va_cpy bf (fun _ => 0) p2.toNatClampNeg (0 : Int32).toNatClampNeg (if (p3 - p2) < ((Int32.ofNat cap) - p2) then (p3 - p2) else ((Int32.ofNat cap) - p2)).toNatClampNeg)))))))))))
set_option maxHeartbeats 4000000 in
set_option maxRecDepth 100000 in
theorem okT_cpRb (l : Launch) (cy : Nat → ClassId) (D : va_G) (B : Nat) (ek : EK) (aV : Nat) (iV : Nat) (p2 : Int32) (p3 : Int32) (cap : Nat) (bf : Nat → Int32) (σ : Mem) (Y : va_W) (hSV : Y[iV]? = some (cBy cy aV cap bf)) (res : (Nat × (Nat → Int32))) (h : fT_cpRb p2 p3 cap bf = some res) : CTE l cy D B ek yJ7_copyOfRangeByte_39247 cJ7_copyOfRangeByte_39247 5 (some (.array .byte)) ({ frames := 1, cells := 1, slots := 2000, locals := 40 } : Room) 1 2000 [.ref aV, .int p2, .int p3] σ Y (fun v9 σ9 Y9 => ∃ aN : Nat, v9 = (some (.ref aN)) ∧ σ9 = σ ∧ Y9 = (Y ++ [cBy cy aN res.1 res.2])) := by
  refine met_XE (own := "java/util/Arrays") (by decide) rfl (Nat.le_of_ble_eq_true rfl) ?_
  intro p e s m args below meth c C hrT hlk
  have hret : ∀ (aN : Nat) (cells9 slots9 pc9 : Nat) (lcs9 : List (Nat × Value)), decode cJ7_copyOfRangeByte_39247 pc9 = .ok (.areturn, 1) → cells9 ≤ 1 → slots9 ≤ 2000 → X p l e ({ frames := 1, cells := 1, slots := 2000, locals := 40 } : Room) s m args below meth c 5 cy D B cells9 slots9 (MQ below (QE cy D B (fun v9 σ9 Y9 => ∃ aN : Nat, v9 = (some (.ref aN)) ∧ σ9 = σ ∧ Y9 = (Y ++ [cBy cy aN res.1 res.2]))) args s 1 2000 (aB B)) pc9 lcs9 [(.ref aN)] σ (Y ++ [cBy cy aN res.1 res.2]) := fun aN cells9 slots9 pc9 lcs9 hd h1 h2 => x_aretE C hrT hlk (Or.inr ⟨_, rfl⟩) hd h1 h2 ⟨aN, rfl, rfl, rfl⟩
  generalize (MQ below (QE cy D B (fun v9 σ9 Y9 => ∃ aN : Nat, v9 = (some (.ref aN)) ∧ σ9 = σ ∧ Y9 = (Y ++ [cBy cy aN res.1 res.2]))) args s 1 2000 (aB B)) = Q at hret ⊢
  obtain ⟨R, hR9⟩ : ∃ R : Room, R = ({ frames := 1, cells := 1, slots := 2000, locals := 40 } : Room) := ⟨_, rfl⟩
  rw [← hR9] at hret ⊢
  have hRc : R.cells = 1 := by rw [hR9]
  have hRs : R.slots = 2000 := by rw [hR9]
  unfold fT_cpRb at h
  show X p l e R s m args below meth c 5 cy D B 0 0 Q 0 [(0, .ref aV), (1, .int p2), (2, .int p3)] [] σ Y
  refine x_iload_n C dJ7_copyOfRangeByte_39247_0 rfl 1 rfl ?_
  refine x_iload_n C dJ7_copyOfRangeByte_39247_1 rfl 2 rfl ?_
  obtain ⟨q1, hk1, h⟩ := Option.bind_eq_some_iff.mp h
  refine x_callS C (As := [.int p2, .int p3]) (rest := []) (lw_g_mk tw_990 rfl) (okJ7_checkLength_df160 l cy D B ek p2 p3 σ Y _ hk1) rfl rfl (by rw [hR9]; decide) (lw_g_mk tw_991 rfl) (lw_g_mk tw_17 rfl) (by decide) rfl (lw_g_mk tw_989 rfl) rfl (Nat.le_of_ble_eq_true rfl) dJ7_copyOfRangeByte_39247_2 ⟨by rw [hRc]; omega, by rw [hRs]; omega⟩ ?_
  refine x_iload_n C dJ7_copyOfRangeByte_39247_5 rfl 2 rfl ?_
  refine x_iload_n C dJ7_copyOfRangeByte_39247_6 rfl 1 rfl ?_
  refine x_isub C dJ7_copyOfRangeByte_39247_7 ?_
  refine x_istore_n C [(3, .int (p3 - p2)), (0, .ref aV), (1, .int p2), (2, .int p3)] dJ7_copyOfRangeByte_39247_8 rfl (by decide) rfl ?_
  refine x_iload_n C dJ7_copyOfRangeByte_39247_9 rfl 0 rfl ?_
  obtain ⟨hg2, h⟩ := gd_some h
  obtain ⟨hg3, h⟩ := gd_some h
  refine x_newBv C (lw_g_mk tw_63 rfl) hg2 hg3 (by rw [hRc]; omega) (by rw [hRs]; omega) dJ7_copyOfRangeByte_39247_10 (fun aN => ?_)
  refine x_astore C [(4, .ref aN), (3, .int (p3 - p2)), (0, .ref aV), (1, .int p2), (2, .int p3)] dJ7_copyOfRangeByte_39247_12 (by decide) rfl ?_
  refine x_aload_n C dJ7_copyOfRangeByte_39247_14 rfl 2 rfl ?_
  refine x_iload_n C dJ7_copyOfRangeByte_39247_15 rfl 3 rfl ?_
  refine x_aload C dJ7_copyOfRangeByte_39247_16 0 rfl ?_
  refine x_iconst C (v := 0) dJ7_copyOfRangeByte_39247_18 (by decide) ?_
  refine x_aload_n C dJ7_copyOfRangeByte_39247_19 rfl 2 rfl ?_
  refine x_alen C _ 2 (wl_ex (ap_some hSV)) rfl (v := Int32.ofNat cap) rfl dJ7_copyOfRangeByte_39247_20 ?_
  refine x_iload_n C dJ7_copyOfRangeByte_39247_21 rfl 3 rfl ?_
  refine x_isub C dJ7_copyOfRangeByte_39247_22 ?_
  refine x_iload_n C dJ7_copyOfRangeByte_39247_23 rfl 1 rfl ?_
  refine x_mmin C (lw_g_mk tw_850 rfl) (lw_g_mk tw_663 rfl) (lw_g_mk tw_16 rfl) (lw_g_mk tw_664 rfl) (by rw [hR9]; decide) (by rw [hR9]; exact Nat.le_of_ble_eq_true rfl) (by rw [hR9]; decide) dJ7_copyOfRangeByte_39247_24 ?_
  obtain ⟨hg4, h⟩ := gd_some h
  obtain ⟨hg5, h⟩ := gd_some h
  obtain ⟨hg6, h⟩ := gd_some h
  obtain ⟨hg7, h⟩ := gd_some h
  obtain ⟨hg8, h⟩ := gd_some h
  obtain ⟨hg9, h⟩ := gd_some h
  refine x_copyB C (lw_g_mk tw_851 rfl) (lw_g_mk tw_853 rfl) (lw_g_mk tw_852 rfl) (lw_g_mk tw_18 rfl) _ _ (wl_ex (ap_some hSV)) (wl_ex pu_0) hg6 hg4 hg5 hg7 hg8 hg9 (by rw [hR9]; decide) (by rw [hR9]; exact Nat.le_of_ble_eq_true rfl) dJ7_copyOfRangeByte_39247_27 (wl_exs ps_0) ?_
  refine x_aload C dJ7_copyOfRangeByte_39247_30 0 rfl ?_
  obtain rfl := Option.some.inj h
  exact hret aN _ _ _ _ dJ7_copyOfRangeByte_39247_32 (by omega) (by omega)
def jT_cpR_10 (p2 : Int32) (p3 : Int32) (cap : Nat) (bf : (Nat → Int32)) : Option ((Nat × (Nat → Int32))) := ((fT_cpRb p2 p3 cap bf).bind fun q1 => (some (q1.1, q1.2)))
def fT_cpR (p2 : Int32) (p3 : Int32) (cap : Nat) (bf : Nat → Int32) : Option ((Nat × (Nat → Int32))) := (if ¬ p2 = 0 then (jT_cpR_10 p2 p3 cap bf) else (if p3 = (Int32.ofNat cap) then (gd (∀ i, i < cap → fits .byte (.int (bf i)) = true) (gd (cap ≤ 2000) (some (cap, bf)))) else (jT_cpR_10 p2 p3 cap bf)))
set_option maxHeartbeats 4000000 in
set_option maxRecDepth 100000 in
theorem okT_cpR (l : Launch) (cy : Nat → ClassId) (D : va_G) (B : Nat) (ek : EK) (aV : Nat) (iV : Nat) (p2 : Int32) (p3 : Int32) (cap : Nat) (bf : Nat → Int32) (σ : Mem) (Y : va_W) (hSV : Y[iV]? = some (cBy cy aV cap bf)) (res : (Nat × (Nat → Int32))) (h : fT_cpR p2 p3 cap bf = some res) : CTE l cy D B ek yJ7_copyOfRange_39247 cJ7_copyOfRange_39247 3 (some (.array .byte)) ({ frames := 6, cells := 1, slots := 2000, locals := 120 } : Room) 1 2000 [.ref aV, .int p2, .int p3] σ Y (fun v9 σ9 Y9 => ∃ aN : Nat, v9 = (some (.ref aN)) ∧ σ9 = σ ∧ Y9 = (Y ++ [cBy cy aN res.1 res.2])) := by
  refine met_XE (own := "java/util/Arrays") (by decide) rfl (Nat.le_of_ble_eq_true rfl) ?_
  intro p e s m args below meth c C hrT hlk
  have hret : ∀ (aN : Nat) (cells9 slots9 pc9 : Nat) (lcs9 : List (Nat × Value)), decode cJ7_copyOfRange_39247 pc9 = .ok (.areturn, 1) → cells9 ≤ 1 → slots9 ≤ 2000 → X p l e ({ frames := 6, cells := 1, slots := 2000, locals := 120 } : Room) s m args below meth c 3 cy D B cells9 slots9 (MQ below (QE cy D B (fun v9 σ9 Y9 => ∃ aN : Nat, v9 = (some (.ref aN)) ∧ σ9 = σ ∧ Y9 = (Y ++ [cBy cy aN res.1 res.2]))) args s 1 2000 (aB B)) pc9 lcs9 [(.ref aN)] σ (Y ++ [cBy cy aN res.1 res.2]) := fun aN cells9 slots9 pc9 lcs9 hd h1 h2 => x_aretE C hrT hlk (Or.inr ⟨_, rfl⟩) hd h1 h2 ⟨aN, rfl, rfl, rfl⟩
  generalize (MQ below (QE cy D B (fun v9 σ9 Y9 => ∃ aN : Nat, v9 = (some (.ref aN)) ∧ σ9 = σ ∧ Y9 = (Y ++ [cBy cy aN res.1 res.2]))) args s 1 2000 (aB B)) = Q at hret ⊢
  obtain ⟨R, hR9⟩ : ∃ R : Room, R = ({ frames := 6, cells := 1, slots := 2000, locals := 120 } : Room) := ⟨_, rfl⟩
  rw [← hR9] at hret ⊢
  have hRc : R.cells = 1 := by rw [hR9]
  have hRs : R.slots = 2000 := by rw [hR9]
  unfold fT_cpR at h
  show X p l e R s m args below meth c 3 cy D B 0 0 Q 0 [(0, .ref aV), (1, .int p2), (2, .int p3)] [] σ Y
  refine x_iload_n C dJ7_copyOfRange_39247_0 rfl 1 rfl ?_
  have hJ2 : ∀ (r9 : (Nat × (Nat → Int32))), jT_cpR_10 p2 p3 cap bf = some r9 → (∀ (aN : Nat) (cells9 slots9 pc9 : Nat) (lcs9 : List (Nat × Value)), decode cJ7_copyOfRange_39247 pc9 = .ok (.areturn, 1) → cells9 ≤ 1 → slots9 ≤ 2000 → X p l e R s m args below meth c 3 cy D B cells9 slots9 Q pc9 lcs9 [(.ref aN)] σ (Y ++ [cBy cy aN r9.1 r9.2])) → X p l e R s m args below meth c 3 cy D B 0 0 Q 10 [(0, .ref aV), (1, .int p2), (2, .int p3)] [] σ Y := by
    intro res9 h hret
    unfold jT_cpR_10 at h
    refine x_aload_n C dJ7_copyOfRange_39247_10 rfl 0 rfl ?_
    refine x_iload_n C dJ7_copyOfRange_39247_11 rfl 1 rfl ?_
    refine x_iload_n C dJ7_copyOfRange_39247_12 rfl 2 rfl ?_
    obtain ⟨q1, hk1, h⟩ := Option.bind_eq_some_iff.mp h
    refine x_callSE C (As := [.ref aV, .int p2, .int p3]) (rest := []) (lw_g_mk tw_987 rfl) (okT_cpRb l cy D B ek _ _ p2 p3 cap bf σ Y hSV _ hk1) rfl rfl (by rw [hR9]; decide) (lw_g_mk tw_988 rfl) (lw_g_mk tw_17 rfl) (by decide) rfl (lw_g_mk tw_986 rfl) rfl (Nat.le_of_ble_eq_true rfl) dJ7_copyOfRange_39247_13 ⟨by rw [hRc]; omega, by rw [hRs]; omega⟩ (fun v9 σ9 Y9 hp9 => ?_)
    obtain ⟨aN, e7, e8, e9⟩ := hp9
    rw [e7, e8, e9]
    obtain rfl := Option.some.inj h
    exact hret aN _ _ _ _ dJ7_copyOfRange_39247_16 (by omega) (by omega)
  refine x_if_ne C (tgt := 10) dJ7_copyOfRange_39247_1 (by decide) (fun hc3 => ?_) (fun hc3 => ?_)
  · rw [if_pos hc3] at h
    exact hJ2 _ h hret
  · rw [if_neg hc3] at h
    refine x_iload_n C dJ7_copyOfRange_39247_4 rfl 2 rfl ?_
    refine x_aload_n C dJ7_copyOfRange_39247_5 rfl 0 rfl ?_
    refine x_alen C _ 2 (wl_ex hSV) rfl (v := Int32.ofNat cap) rfl dJ7_copyOfRange_39247_6 ?_
    refine x_icmp_eq C (tgt := 17) dJ7_copyOfRange_39247_7 (by decide) (fun hc4 => ?_) (fun hc4 => ?_)
    · rw [if_pos hc4] at h
      refine x_aload_n C dJ7_copyOfRange_39247_17 rfl 0 rfl ?_
      obtain ⟨hg5, h⟩ := gd_some h
      obtain ⟨hg6, h⟩ := gd_some h
      refine x_clone C (lw_g_mk tw_843 rfl) (lw_g_mk tw_844 rfl) (lw_g_mk tw_845 rfl) (lw_g_mk tw_846 rfl) (lw_g_mk tw_847 rfl) (lw_g_mk tw_849 rfl) _ (wl_ex hSV) hg5 hg6 (by rw [hR9]; decide) (by rw [hR9]; exact Nat.le_of_ble_eq_true rfl) (by rw [hRc]; omega) (by rw [hRs]; omega) dJ7_copyOfRange_39247_18 dJ7_copyOfRange_39247_21 (fun aN => ?_)
      obtain rfl := Option.some.inj h
      exact hret aN _ _ _ _ dJ7_copyOfRange_39247_24 (by omega) (by omega)
    · rw [if_neg hc4] at h
      exact hJ2 _ h hret
def jT_snIn0_79 : Option ((Nat × (Nat → Int32))) := none
def fT_snIn0 (cap : Nat) (bf : Nat → Int32) (cn : Int32) : Option ((Nat × (Nat → Int32))) := ((fT_sbVal cap bf cn).bind fun q1 => ((fT_sbLn cap bf cn).bind fun q2 => ((fT_sbLat cap bf cn).bind fun q3 => (if q3 = 0 then (if (1 : Int32) = 0 then (jT_snIn0_79) else (if (0 : Int32) = 0 then (jT_snIn0_79) else none)) else ((fT_cpR (0 : Int32) q2 cap bf).bind fun q4 => (some (q4.1, q4.2)))))))
set_option maxHeartbeats 4000000 in
set_option maxRecDepth 100000 in
theorem okT_snIn0 (l : Launch) (cy : Nat → ClassId) (D : va_G) (B : Nat) (ek : EK) (aZ : Nat) (aS : Nat) (aV : Nat) (iS : Nat) (iV : Nat) (cap : Nat) (bf : Nat → Int32) (cn : Int32) (σ : Mem) (Y : va_W) (hSB : Y[iS]? = some (cSB aS aV cn)) (hSV : Y[iV]? = some (cBy cy aV cap bf)) (res : (Nat × (Nat → Int32))) (h : fT_snIn0 cap bf cn = some res) : CTE l cy D B ek yJ0_init_db425 cJ0_init_db425 5 none ({ frames := 7, cells := 1, slots := 2000, locals := 142 } : Room) 1 2000 [.ref aZ, .ref aS, .null] σ (Y ++ [cNS aZ .null]) (fun v9 σ9 Y9 => ∃ aN : Nat, v9 = none ∧ σ9 = σ ∧ Y9 = (Y ++ [cNS aZ (.ref aN), cBy cy aN res.1 res.2])) := by
  refine met_XEN (own := "java/lang/String") (by decide) rfl (Nat.le_of_ble_eq_true rfl) ?_
  intro p e s m args below meth c C hrT hlk hin9
  have hret : ∀ (aN : Nat) (cells9 slots9 pc9 : Nat) (lcs9 : List (Nat × Value)), decode cJ0_init_db425 pc9 = .ok (.return_, 1) → cells9 ≤ 1 → slots9 ≤ 2000 → X p l e ({ frames := 7, cells := 1, slots := 2000, locals := 142 } : Room) s m args below meth c 5 cy D B cells9 slots9 (MQ below (QE cy D B (fun v9 σ9 Y9 => ∃ aN : Nat, v9 = none ∧ σ9 = σ ∧ Y9 = (Y ++ [cNS aZ (.ref aN), cBy cy aN res.1 res.2]))) args s 1 2000 (aB B)) pc9 lcs9 [] σ (Y ++ [cNS aZ (.ref aN), cBy cy aN res.1 res.2]) := fun aN cells9 slots9 pc9 lcs9 hd h1 h2 => x_vretE C hrT hlk hd h1 h2 ⟨aN, rfl, rfl, rfl⟩
  generalize (MQ below (QE cy D B (fun v9 σ9 Y9 => ∃ aN : Nat, v9 = none ∧ σ9 = σ ∧ Y9 = (Y ++ [cNS aZ (.ref aN), cBy cy aN res.1 res.2]))) args s 1 2000 (aB B)) = Q at hret ⊢
  obtain ⟨R, hR9⟩ : ∃ R : Room, R = ({ frames := 7, cells := 1, slots := 2000, locals := 142 } : Room) := ⟨_, rfl⟩
  rw [← hR9] at hret ⊢
  have hRc : R.cells = 1 := by rw [hR9]
  have hRs : R.slots = 2000 := by rw [hR9]
  unfold fT_snIn0 at h
  show X p l e R s m args below meth c 5 cy D B 0 0 Q 0 [(0, .ref aZ), (1, .ref aS), (2, .null)] [] σ (Y ++ [cNS aZ .null])
  refine x_aload_n C dJ0_init_db425_0 rfl 0 rfl ?_
  refine x_obj C (lw_g_mk tw_968 rfl) (lw_g_mk tw_32 rfl) (lw_g_mk tw_33 rfl) (by rw [hR9]; decide) (by rw [hR9]; exact Nat.le_of_ble_eq_true rfl) dJ0_init_db425_1 ?_
  refine x_aload_n C dJ0_init_db425_4 rfl 1 rfl ?_
  obtain ⟨q1, hk1, h⟩ := Option.bind_eq_some_iff.mp h
  refine x_callUE C (As := []) (rest := []) (C1 := "java/lang/StringBuilder") (T := TJ4) (N := 4) (ci := 1) (lw_g_mk tw_970 rfl) (lw_g_mk tw_971 rfl) (C.2.2.2.2.1 _ (lw_g_mk tw_972 rfl)) (wl_ex (ap_some hSB)) rfl (okT_sbVal l cy D B ek _ _ _ _ cap bf cn σ (Y ++ [cNS aZ .null]) (ap_some hSB) (ap_some hSV) _ hk1) rfl rfl (by rw [hR9]; decide) (lw_g_mk tw_973 rfl) (lw_g_mk tw_11 rfl) (by decide) rfl (lw_g_mk tw_969 rfl) rfl (Nat.le_of_ble_eq_true rfl) dJ0_init_db425_5 ⟨by rw [hRc]; omega, by rw [hRs]; omega⟩ (fun v9 σ9 Y9 hp9 => ?_)
  obtain ⟨e7, e8, e9⟩ := hp9
  rw [e7, e8, e9]
  refine x_astore_n C [(3, .ref aV), (0, .ref aZ), (1, .ref aS), (2, .null)] dJ0_init_db425_8 rfl (by decide) rfl ?_
  refine x_aload_n C dJ0_init_db425_9 rfl 2 rfl ?_
  obtain ⟨q2, hk2, h⟩ := Option.bind_eq_some_iff.mp h
  refine x_callOE C (As := []) (rest := []) (x := yJ5_length_8abf5) (lw_g_mk tw_978 rfl) (lw_g_mk tw_975 rfl) (lw_g_mk tw_981 rfl) (lw_g_mk tw_976 rfl) (lw_g_mk tw_977 rfl) (wl_ex (ap_some hSB)) (C1 := "java/lang/StringBuilder") (T := TJ4) (N := 4) (ci := 1) rfl (okT_sbLn l cy D B ek _ _ _ _ cap bf cn σ (Y ++ [cNS aZ .null]) (ap_some hSB) (ap_some hSV) _ hk2) rfl rfl (by rw [hR9]; decide) (lw_g_mk tw_979 rfl) (lw_g_mk tw_12 rfl) (by decide) rfl (lw_g_mk tw_974 rfl) rfl (Nat.le_of_ble_eq_true rfl) dJ0_init_db425_10 ⟨by rw [hRc]; omega, by rw [hRs]; omega⟩ (fun v9 σ9 Y9 hp9 => ?_)
  obtain ⟨e7, e8, e9⟩ := hp9
  rw [e7, e8, e9]
  refine x_istore C [(4, .int q2), (3, .ref aV), (0, .ref aZ), (1, .ref aS), (2, .null)] dJ0_init_db425_13 (by decide) rfl ?_
  refine x_aload_n C dJ0_init_db425_15 rfl 3 rfl ?_
  obtain ⟨q3, hk3, h⟩ := Option.bind_eq_some_iff.mp h
  refine x_callUE C (As := []) (rest := []) (C1 := "java/lang/StringBuilder") (T := TJ4) (N := 4) (ci := 1) (lw_g_mk tw_855 rfl) (lw_g_mk tw_856 rfl) (C.2.2.2.2.1 _ (lw_g_mk tw_857 rfl)) (wl_ex (ap_some hSB)) rfl (okT_sbLat l cy D B ek _ _ _ _ cap bf cn σ (Y ++ [cNS aZ .null]) (ap_some hSB) (ap_some hSV) _ hk3) rfl rfl (by rw [hR9]; decide) (lw_g_mk tw_858 rfl) (lw_g_mk tw_11 rfl) (by decide) rfl (lw_g_mk tw_982 rfl) rfl (Nat.le_of_ble_eq_true rfl) dJ0_init_db425_16 ⟨by rw [hRc]; omega, by rw [hRs]; omega⟩ (fun v9 σ9 Y9 hp9 => ?_)
  obtain ⟨e7, e8, e9⟩ := hp9
  rw [e7, e8, e9]
  refine x_if_eq C (tgt := 41) dJ0_init_db425_19 (by decide) (fun hc4 => ?_) (fun hc4 => ?_)
  · rw [if_pos hc4] at h
    refine x_compact C (lw_g_mk tw_501 rfl) dJ0_init_db425_41 ?_
    have hJ5 : ∀ (r9 : (Nat × (Nat → Int32))), jT_snIn0_79 = some r9 → (∀ (aN : Nat) (cells9 slots9 pc9 : Nat) (lcs9 : List (Nat × Value)), decode cJ0_init_db425 pc9 = .ok (.return_, 1) → cells9 ≤ 1 → slots9 ≤ 2000 → X p l e R s m args below meth c 5 cy D B cells9 slots9 Q pc9 lcs9 [] σ (Y ++ [cNS aZ (.ref aN), cBy cy aN r9.1 r9.2])) → X p l e R s m args below meth c 5 cy D B (((0 + 0) + 0) + 0) (((0 + 0) + 0) + 0) Q 79 [(0, .ref aZ), (3, .ref aV), (4, .int q2)] [] σ (Y ++ [cNS aZ .null]) := by
      intro res9 h hret
      unfold jT_snIn0_79 at h
      refine x_aload_n C dJ0_init_db425_79 rfl 0 rfl ?_
      refine x_iconst C (v := 1) dJ0_init_db425_80 (by decide) ?_
      cases h
    refine x_if_eq C (tgt := 79) dJ0_init_db425_44 (by decide) (fun hc6 => ?_) (fun hc6 => ?_)
    · rw [if_pos hc6] at h
      refine x_sub [2, 1, 0] rfl ?_
      exact hJ5 _ h hret
    · rw [if_neg hc6] at h
      refine x_aload_n C dJ0_init_db425_47 rfl 3 rfl ?_
      refine x_get C (C1 := "java/lang/StringBuilder") (T := TJ4) (N := 4) (ci := 1) inJg4 _ (wl_ex (ap_some hSB)) rfl 2 (by decide) (lw_g_mk tw_800 rfl) rfl dJ0_init_db425_48 ?_
      refine x_if_eq C (tgt := 79) dJ0_init_db425_51 (by decide) (fun hc7 => ?_) (fun hc7 => ?_)
      · rw [if_pos hc7] at h
        refine x_sub [2, 1, 0] rfl ?_
        exact hJ5 _ h hret
      · rw [if_neg hc7] at h
        refine x_aload_n C dJ0_init_db425_54 rfl 2 rfl ?_
        refine x_aload_n C dJ0_init_db425_55 rfl 1 rfl ?_
        refine x_iconst C (v := 0) dJ0_init_db425_56 (by decide) ?_
        refine x_iload C dJ0_init_db425_57 0 rfl ?_
        cases h
  · rw [if_neg hc4] at h
    refine x_aload_n C dJ0_init_db425_22 rfl 2 rfl ?_
    refine x_iconst C (v := 0) dJ0_init_db425_23 (by decide) ?_
    refine x_putF C (C1 := "java/lang/String") (T := TJ0) (N := 4) (ci := 0) inJg0 tyJ0 tyJ0_ok nmJ0 _ (wl_ex pu_0) rfl 1 (by decide) (lw_g_mk tw_1011 rfl) rfl hin9 rfl rfl rfl rfl (Nat.le_of_ble_eq_true rfl) dJ0_init_db425_24 (wl_exs ps_0) ?_
    refine x_aload_n C dJ0_init_db425_27 rfl 2 rfl ?_
    refine x_aload_n C dJ0_init_db425_28 rfl 1 rfl ?_
    refine x_iconst C (v := 0) dJ0_init_db425_29 (by decide) ?_
    refine x_iload C dJ0_init_db425_30 0 rfl ?_
    obtain ⟨q4, hk8, h⟩ := Option.bind_eq_some_iff.mp h
    refine x_callSE C (As := [.ref aV, .int (0 : Int32), .int q2]) (rest := [.ref aZ]) (lw_g_mk tw_984 rfl) (okT_cpR l cy D B ek _ _ (0 : Int32) q2 cap bf σ (Y ++ [cNS aZ .null]) (ap_some hSV) _ hk8) rfl rfl (by rw [hR9]; decide) (lw_g_mk tw_985 rfl) (lw_g_mk tw_17 rfl) (by decide) rfl (lw_g_mk tw_983 rfl) rfl (Nat.le_of_ble_eq_true rfl) dJ0_init_db425_32 ⟨by rw [hRc]; omega, by rw [hRs]; omega⟩ (fun v9 σ9 Y9 hp9 => ?_)
    obtain ⟨aN, e7, e8, e9⟩ := hp9
    rw [List.append_assoc] at e9
    rw [e7, e8, e9]
    refine x_putF C (C1 := "java/lang/String") (T := TJ0) (N := 4) (ci := 0) inJg0 tyJ0 tyJ0_ok nmJ0 _ (wl_ex pu_0) rfl 0 (by decide) (lw_g_mk tw_1010 rfl) rfl hin9 rfl rfl rfl rfl (Nat.le_of_ble_eq_true rfl) dJ0_init_db425_35 (wl_exs ps_0) ?_
    refine x_goto C (tgt := 97) dJ0_init_db425_38 (by decide) ?_
    obtain rfl := Option.some.inj h
    exact hret aN _ _ _ _ dJ0_init_db425_97 (by omega) (by omega)
def fT_snIn (cap : Nat) (bf : Nat → Int32) (cn : Int32) : Option ((Nat × (Nat → Int32))) := ((fT_snIn0 cap bf cn).bind fun q1 => (some (q1.1, q1.2)))
set_option maxHeartbeats 4000000 in
set_option maxRecDepth 100000 in
theorem okT_snIn (l : Launch) (cy : Nat → ClassId) (D : va_G) (B : Nat) (ek : EK) (aZ : Nat) (aS : Nat) (aV : Nat) (iS : Nat) (iV : Nat) (cap : Nat) (bf : Nat → Int32) (cn : Int32) (σ : Mem) (Y : va_W) (hSB : Y[iS]? = some (cSB aS aV cn)) (hSV : Y[iV]? = some (cBy cy aV cap bf)) (res : (Nat × (Nat → Int32))) (h : fT_snIn cap bf cn = some res) : CTE l cy D B ek yJ0_init_81219 cJ0_init_81219 2 none ({ frames := 8, cells := 1, slots := 2000, locals := 166 } : Room) 1 2000 [.ref aZ, .ref aS] σ (Y ++ [cNS aZ .null]) (fun v9 σ9 Y9 => ∃ aN : Nat, v9 = none ∧ σ9 = σ ∧ Y9 = (Y ++ [cNS aZ (.ref aN), cBy cy aN res.1 res.2])) := by
  refine met_XEN (own := "java/lang/String") (by decide) rfl (Nat.le_of_ble_eq_true rfl) ?_
  intro p e s m args below meth c C hrT hlk hin9
  have hret : ∀ (aN : Nat) (cells9 slots9 pc9 : Nat) (lcs9 : List (Nat × Value)), decode cJ0_init_81219 pc9 = .ok (.return_, 1) → cells9 ≤ 1 → slots9 ≤ 2000 → X p l e ({ frames := 8, cells := 1, slots := 2000, locals := 166 } : Room) s m args below meth c 2 cy D B cells9 slots9 (MQ below (QE cy D B (fun v9 σ9 Y9 => ∃ aN : Nat, v9 = none ∧ σ9 = σ ∧ Y9 = (Y ++ [cNS aZ (.ref aN), cBy cy aN res.1 res.2]))) args s 1 2000 (aB B)) pc9 lcs9 [] σ (Y ++ [cNS aZ (.ref aN), cBy cy aN res.1 res.2]) := fun aN cells9 slots9 pc9 lcs9 hd h1 h2 => x_vretE C hrT hlk hd h1 h2 ⟨aN, rfl, rfl, rfl⟩
  generalize (MQ below (QE cy D B (fun v9 σ9 Y9 => ∃ aN : Nat, v9 = none ∧ σ9 = σ ∧ Y9 = (Y ++ [cNS aZ (.ref aN), cBy cy aN res.1 res.2]))) args s 1 2000 (aB B)) = Q at hret ⊢
  obtain ⟨R, hR9⟩ : ∃ R : Room, R = ({ frames := 8, cells := 1, slots := 2000, locals := 166 } : Room) := ⟨_, rfl⟩
  rw [← hR9] at hret ⊢
  have hRc : R.cells = 1 := by rw [hR9]
  have hRs : R.slots = 2000 := by rw [hR9]
  unfold fT_snIn at h
  show X p l e R s m args below meth c 2 cy D B 0 0 Q 0 [(0, .ref aZ), (1, .ref aS)] [] σ (Y ++ [cNS aZ .null])
  refine x_aload_n C dJ0_init_81219_0 rfl 0 rfl ?_
  refine x_aload_n C dJ0_init_81219_1 rfl 1 rfl ?_
  refine x_nul C dJ0_init_81219_2 ?_
  obtain ⟨q1, hk1, h⟩ := Option.bind_eq_some_iff.mp h
  refine x_callIE C (As := [.ref aS, .null]) (rest := []) (lw_g_mk tw_966 rfl) rfl (okT_snIn0 l cy D B ek _ _ _ _ _ cap bf cn σ Y hSB hSV _ hk1) rfl rfl (by rw [hR9]; decide) (lw_g_mk tw_967 rfl) (lw_g_mk tw_13 rfl) (by decide) rfl (lw_g_mk tw_965 rfl) rfl (Nat.le_of_ble_eq_true rfl) dJ0_init_81219_3 ⟨by rw [hRc]; omega, by rw [hRs]; omega⟩ (fun v9 σ9 Y9 hp9 => ?_)
  obtain ⟨aN, e7, e8, e9⟩ := hp9
  rw [e7, e8, e9]
  obtain rfl := Option.some.inj h
  exact hret aN _ _ _ _ dJ0_init_81219_6 (by omega) (by omega)
def fT_sbStr (cap : Nat) (bf : Nat → Int32) (cn : Int32) : Option ((Nat × (Nat → Int32))) := ((fT_snIn cap bf cn).bind fun q1 => (some (q1.1, q1.2)))
set_option maxHeartbeats 4000000 in
set_option maxRecDepth 100000 in
theorem okT_sbStr (l : Launch) (cy : Nat → ClassId) (D : va_G) (B : Nat) (ek : EK) (aS : Nat) (aV : Nat) (iS : Nat) (iV : Nat) (cap : Nat) (bf : Nat → Int32) (cn : Int32) (σ : Mem) (Y : va_W) (hSB : Y[iS]? = some (cSB aS aV cn)) (hSV : Y[iV]? = some (cBy cy aV cap bf)) (res : (Nat × (Nat → Int32))) (h : fT_sbStr cap bf cn = some res) : CTE l cy D B ek yJ4_toString_0e30d cJ4_toString_0e30d 1 (some (.object "java/lang/String")) ({ frames := 9, cells := 2, slots := 2004, locals := 187 } : Room) 2 2004 [.ref aS] σ Y (fun v9 σ9 Y9 => ∃ aZ : Nat, ∃ aN : Nat, v9 = (some (.ref aZ)) ∧ σ9 = σ ∧ Y9 = (Y ++ [cNS aZ (.ref aN), cBy cy aN res.1 res.2])) := by
  refine met_XE (own := "java/lang/StringBuilder") (by decide) rfl (Nat.le_of_ble_eq_true rfl) ?_
  intro p e s m args below meth c C hrT hlk
  have hret : ∀ (aZ : Nat) (aN : Nat) (cells9 slots9 pc9 : Nat) (lcs9 : List (Nat × Value)), decode cJ4_toString_0e30d pc9 = .ok (.areturn, 1) → cells9 ≤ 2 → slots9 ≤ 2004 → X p l e ({ frames := 9, cells := 2, slots := 2004, locals := 187 } : Room) s m args below meth c 1 cy D B cells9 slots9 (MQ below (QE cy D B (fun v9 σ9 Y9 => ∃ aZ : Nat, ∃ aN : Nat, v9 = (some (.ref aZ)) ∧ σ9 = σ ∧ Y9 = (Y ++ [cNS aZ (.ref aN), cBy cy aN res.1 res.2]))) args s 2 2004 (aB B)) pc9 lcs9 [(.ref aZ)] σ (Y ++ [cNS aZ (.ref aN), cBy cy aN res.1 res.2]) := fun aZ aN cells9 slots9 pc9 lcs9 hd h1 h2 => x_aretE C hrT hlk (Or.inl ⟨_, rfl⟩) hd h1 h2 ⟨aZ, aN, rfl, rfl, rfl⟩
  generalize (MQ below (QE cy D B (fun v9 σ9 Y9 => ∃ aZ : Nat, ∃ aN : Nat, v9 = (some (.ref aZ)) ∧ σ9 = σ ∧ Y9 = (Y ++ [cNS aZ (.ref aN), cBy cy aN res.1 res.2]))) args s 2 2004 (aB B)) = Q at hret ⊢
  obtain ⟨R, hR9⟩ : ∃ R : Room, R = ({ frames := 9, cells := 2, slots := 2004, locals := 187 } : Room) := ⟨_, rfl⟩
  rw [← hR9] at hret ⊢
  have hRc : R.cells = 2 := by rw [hR9]
  have hRs : R.slots = 2004 := by rw [hR9]
  unfold fT_sbStr at h
  show X p l e R s m args below meth c 1 cy D B 0 0 Q 0 [(0, .ref aS)] [] σ Y
  refine x_new C (C1 := "java/lang/String") (T := TJ0) (N := 4) (ci := 0) (fs := [.null, .int 0, .int 0, .int 0]) inJg0 tyJ0 tyJ0_ok (lw_g_mk tw_960 rfl) (lw_g_mk tw_961 rfl) (lw_g_mk tw_13 rfl) rfl (by decide +kernel) (by rw [hRc]; omega) (by rw [hRs]; omega) dJ4_toString_0e30d_0 (fun aZ => ?_)
  refine x_dup C dJ4_toString_0e30d_3 rfl ?_
  refine x_aload_n C dJ4_toString_0e30d_4 rfl 0 rfl ?_
  obtain ⟨q1, hk1, h⟩ := Option.bind_eq_some_iff.mp h
  refine x_callIE C (As := [.ref aS]) (rest := [.ref aZ]) (lw_g_mk tw_963 rfl) rfl (okT_snIn l cy D B ek _ _ _ _ _ cap bf cn σ Y hSB hSV _ hk1) rfl rfl (by rw [hR9]; decide) (lw_g_mk tw_964 rfl) (lw_g_mk tw_13 rfl) (by decide) rfl (lw_g_mk tw_962 rfl) rfl (Nat.le_of_ble_eq_true rfl) dJ4_toString_0e30d_5 ⟨by rw [hRc]; omega, by rw [hRs]; omega⟩ (fun v9 σ9 Y9 hp9 => ?_)
  obtain ⟨aN, e7, e8, e9⟩ := hp9
  rw [e7, e8, e9]
  obtain rfl := Option.some.inj h
  exact hret aZ aN _ _ _ _ dJ4_toString_0e30d_8 (by omega) (by omega)
