/-! rows for text constants (written by wip/gen/xstr.py) -/
section XS
variable {p : Program} {l : Launch} {e : Env} {R : Room} {s : State} {m : MethodId} {args : Array Value} {below : List Frame} {meth : Method} {c : Code} {nL : Nat} {cy : Nat → ClassId} {D : va_G} {B : Nat} {ek : EK} {own : String} {cc : ByteArray} {cells slots : Nat} {Q : State → Prop} {pc : Nat} {lcs : List (Nat × Value)} {st : List Value} {ad : Nat} {σ : Mem} {Y : va_W}
theorem x_strV (C : Cx p s m args c nL cy D B ek own cc) {index i : Nat} (hi : i < 18) (hlink : Cond.fieldLink own index "java/lang/String" "value" "[B" ∈ lw_g) (hdg : decode cc pc = .ok (.getfield index, 3)) (kk : X p l e R s m args below meth c nL cy D B cells slots Q (pc + 3) lcs (.ref (ek.2.1 i) :: st) σ Y) : X p l e R s m args below meth c nL cy D B cells slots Q pc lcs (.ref (ek.1 i) :: st) σ Y :=
  fun H locs ls hP hS hh => vk_getf C.1 C.2.1 (C.2.2.2.2.2.2.2.2.2.2.2.2.1.1 i hi).2.2.1 hS C.2.2.2.1 (C.2.2.2.2.1 _ hlink) (fun _ h => h) hdg (kk H locs ls hP hS hh)
theorem x_strC (C : Cx p s m args c nL cy D B ek own cc) {index i : Nat} (hi : i < 18) (hlink : Cond.fieldLink own index "java/lang/String" "coder" "B" ∈ lw_g) (hdg : decode cc pc = .ok (.getfield index, 3)) (kk : X p l e R s m args below meth c nL cy D B cells slots Q (pc + 3) lcs (.int 0 :: st) σ Y) : X p l e R s m args below meth c nL cy D B cells slots Q pc lcs (.ref (ek.1 i) :: st) σ Y :=
  fun H locs ls hP hS hh => vk_getf C.1 C.2.1 (C.2.2.2.2.2.2.2.2.2.2.2.2.1.1 i hi).2.1 hS C.2.2.2.1 (C.2.2.2.2.1 _ hlink) (fun _ h => h) hdg (kk H locs ls hP hS hh)
theorem x_strL (C : Cx p s m args c nL cy D B ek own cc) {i : Nat} (hi : i < 18) (hdg : decode cc pc = .ok (.arraylength, 1)) (kk : X p l e R s m args below meth c nL cy D B cells slots Q (pc + 1) lcs (.int (Int32.ofNat (lenI.getD i 0)) :: st) σ Y) : X p l e R s m args below meth c nL cy D B cells slots Q pc lcs (.ref (ek.2.1 i) :: st) σ Y :=
  fun H locs ls hP hS hh => va_tlen C.1 C.2.1 (C.2.2.2.2.2.2.2.2.2.2.2.2.1.1 i hi).2.2.2 hS rfl hdg (kk H locs ls hP hS hh)
theorem x_strB (C : Cx p s m args c nL cy D B ek own cc) {i : Nat} {x : Int32} (hi : i < 18) (hin : vp_in x (lenI.getD i 0)) (hdg : decode cc pc = .ok (.baload, 1)) (kk : X p l e R s m args below meth c nL cy D B cells slots Q (pc + 1) lcs (.int ((bytI.getD i []).getD x.toNatClampNeg 0) :: st) σ Y) : X p l e R s m args below meth c nL cy D B cells slots Q pc lcs (.int x :: .ref (ek.2.1 i) :: st) σ Y :=
  fun H locs ls hP hS hh => va_tb C.1 C.2.1 (C.2.2.2.2.2.2.2.2.2.2.2.2.1.1 i hi).2.2.2 hS hin rfl hdg (kk H locs ls hP hS hh)
theorem x_compact (C : Cx p s m args c nL cy D B ek own cc) {index : Nat} (hlink : Cond.fieldLink own index "java/lang/String" "COMPACT_STRINGS" "Z" ∈ lw_g) (hdg : decode cc pc = .ok (.getstatic index, 3)) (kk : X p l e R s m args below meth c nL cy D B cells slots Q (pc + 3) lcs (.int 1 :: st) σ Y) : X p l e R s m args below meth c nL cy D B cells slots Q pc lcs st σ Y :=
  fun H locs ls hP hS hh => va_gets C.1 C.2.1 C.2.2.2.2.2.2.2.2.2.2.2.2.2.1 hS C.2.2.2.1 (C.2.2.2.2.1 _ hlink) (fun _ h => h) hdg (kk H locs ls hP hS hh)
theorem x_sioobe (C : Cx p s m args c nL cy D B ek own cc) {index : Nat} (hlink : Cond.fieldLink own index "jdk/internal/util/Preconditions" "SIOOBE_FORMATTER" "Ljava/util/function/BiFunction;" ∈ lw_g) (hdg : decode cc pc = .ok (.getstatic index, 3)) (kk : ∀ v : Value, v = .null ∨ (∃ t, v = .ref t) → X p l e R s m args below meth c nL cy D B cells slots Q (pc + 3) lcs (v :: st) σ Y) : X p l e R s m args below meth c nL cy D B cells slots Q pc lcs st σ Y := by
  intro H locs ls hP hS hh
  rcases C.2.2.2.2.2.2.2.2.2.2.2.2.2.2.1 with hz | ⟨t, hz⟩
  · exact va_gets C.1 C.2.1 hz hS C.2.2.2.1 (C.2.2.2.2.1 _ hlink) (fun _ h => h) hdg (kk _ (Or.inl rfl) H locs ls hP hS hh)
  · exact va_gets C.1 C.2.1 hz hS C.2.2.2.1 (C.2.2.2.2.1 _ hlink) (fun _ h => h) hdg (kk _ (Or.inr ⟨t, rfl⟩) H locs ls hP hS hh)
theorem x_ldcS (C : Cx p s m args c nL cy D B ek own cc) {index i : Nat} {tx : String} (hs : strI[i]? = some (own, index, tx)) (hdg : decode cc pc = .ok (.ldc index, 2)) (kk : X p l e R s m args below meth c nL cy D B cells slots Q (pc + 2) lcs (.ref (ek.1 i) :: st) σ Y) : X p l e R s m args below meth c nL cy D B cells slots Q pc lcs st σ Y := by
  intro H locs ls hP hS hh T hT XT
  have hr := vk_R.warm XT.warmed (C.2.2.2.2.2.2.2.2.2.2.2.1 i _ hs)
  obtain ⟨t, a1, b1⟩ := kk H locs ls hP hS hh T hT XT
  have hr0 := C.2.2.2.2.2.2.2.2.2.2.2.1 i _ hs
  exact ⟨t, XT.ldcString C.1 (own := own) (text := tx) (index := index) (a := ek.1 i) C.2.2.2.1 hr0.1 hr0.2 (g := F0 m pc ls st) rfl (by rw [C.2.1]; exact hdg) _ a1, b1⟩
theorem x_callT (C : Cx p s m args c nL cy D B ek own cc) {y : MethodName} {bytes : ByteArray} {maxL index : Nat} {ret : Option FieldType} {rm : Room} {As rest : List Value} {v : Option Value} {σ' : Mem} {Y' : va_W} {i : Nat} (hi : i < 18) (hinst : Cond.instanceMethod y ∈ lw_g) (hsel : Cond.selects "java/lang/String" y y ∈ lw_g) (hM : CT l cy D B ek y bytes maxL ret rm (.ref (ek.1 i) :: As) σ Y v σ' Y') (hrc : rm.cells = 0) (hrs : rm.slots = 0) (hR : rm.frames + 1 ≤ R.frames ∧ 8 + (maxL + 11) + rm.locals ≤ R.locals) (hcode : Cond.code y bytes maxL ret ∈ lw_g) (hini : Cond.initialized y.cls ∈ lw_g) (hy : y.cls ≠ "java/lang/invoke/MethodHandle" ∧ y.cls ≠ "java/lang/invoke/VarHandle") (hlen : (parseMethodDescriptor y.desc).map (fun d => d.parameters.length) = some As.length) (hlink : Cond.methodLink own index y ∈ lw_g) (hstk : st = As.reverse ++ .ref (ek.1 i) :: rest) (hW : (rest.map fun v => v.category).sum ≤ 8) (hdg : decode cc pc = .ok (.invokevirtual index, 3)) (hcs : cells ≤ R.cells ∧ slots ≤ R.slots) (kk : X p l e R s m args below meth c nL cy D B cells slots Q (pc + 3) lcs (v.toList ++ rest) σ' Y') : X p l e R s m args below meth c nL cy D B cells slots Q pc lcs st σ Y := by
  intro H locs ls hP hS hh T hT XS
  have hts := C.2.2.2.2.1
  have hK := C.2.2.2.2.2.1
  have hws : ∀ w ∈ wsA y bytes maxL ret, ∀ (a9 : Array Value) (U : State), s.WarmedH U.vm → w.before a9 U = true := by
    intro w hw a9 U hW9
    rcases List.mem_cons.mp hw with rfl | hw
    · exact word_at hW9 (good_of_word (lw_g_good _ hcode)) (hts _ hcode)
    · exact word_at hW9 (good_of_word (lw_g_good _ hw)) (hts _ hw)
  have hlen9 : ∀ sig, parseMethodDescriptor y.desc = some sig → As.length = sig.parameters.length := by
    intro sig h9
    rw [h9] at hlen
    exact (Option.some.inj hlen).symm
  have run := va_runV (e := e) (locs := locs) (meth := meth) (below := below) (g := F0 m pc ls st) (rest := rest) (As := As) ⟨C.1, C.2.1, C.2.2.1, C.2.2.2.1, hts⟩ hM (n := As.length) ⟨⟨hrc, hrs, hR.1, hR.2, hws, List.mem_cons_self, hts _ hcode, hts _ hini, hy, hlen9, hts _ hlink⟩, hts _ hinst, hts _ hsel⟩ ⟨fun a U g mk q => by obtain ⟨q0, qP, qK, qS, qE⟩ := q; exact ⟨q0, qP, va_K.moved (u := U) (U := U.calling g mk a) (Vm.Alike.refl U.vm) qK, qS, qE.warm (U' := U.calling g mk a) (State.WarmedH.refl U) (Nat.le_refl _) (fun _ _ _ => rfl)⟩, vk_recv C.2.2.2.2.2.2.2.2.2.2.2.2.1 hi hS, fun U hU hW9 => ⟨rfl, by rw [hU]; exact hP, va_K.moved hW9.alike hK, by rw [hU]; exact Nat.le_trans C.2.2.2.2.2.2.1 hS.1, by rw [hU]; exact C.2.2.2.2.2.2.2.warm hW9 hS.1 hS.2.1⟩⟩ rfl rfl hh.1 hstk (lv_room hW) hdg (cells := cells) (slots := slots) ⟨hcs.1, hcs.2⟩
  obtain ⟨v9, st0, t, T', L, h0, X', hL, e1, e2, ⟨hv, hP', hF⟩, hg⟩ := run T hT XS
  cases hv
  obtain ⟨t2, a1, b1⟩ := kk T'.heap (locs ++ L) ls (by rw [e1]; exact hP') ⟨Nat.le_trans hS.1 (by rw [e1, ← h0]; exact hF.1), fun q h1 h2 => by rw [e1, hF.2 q (by rw [h0]; exact Nat.lt_of_lt_of_le h1 hS.1) h2, h0]; exact hS.2.1 q h1 h2, fun q hq => (List.mem_append.mp hq).elim (hS.2.2 q) (hL q)⟩ hh T' rfl X'
  exact ⟨t2, hg t2 a1, b1⟩
end XS
