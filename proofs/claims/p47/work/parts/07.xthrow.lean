/-! rows of methods that throw (written by wip/gen/xthrow.py) -/
theorem hat_1 : ∀ w ∈ vx_atS "HostelBeds" 59 "java/lang/IllegalStateException" ["java/lang/RuntimeException", "java/lang/Exception"], w ∈ lw_g ∨ notG w = true := by
  have h1 : ∀ w ∈ vx_atS "HostelBeds" 59 "java/lang/IllegalStateException" ["java/lang/RuntimeException", "java/lang/Exception"], goodWord w = true ∨ notG w = true := by decide +kernel
  intro w hw
  rcases h1 w hw with h | h
  · exact Or.inl (lw_g_mk (wsL_law_x1 w (List.mem_filter.mpr ⟨hw, h⟩)) h)
  · exact Or.inr h
theorem hat_2 : ∀ w ∈ vx_atS "HostelBeds" 70 "java/lang/IllegalArgumentException" ["java/lang/RuntimeException", "java/lang/Exception"], w ∈ lw_g ∨ notG w = true := by
  have h1 : ∀ w ∈ vx_atS "HostelBeds" 70 "java/lang/IllegalArgumentException" ["java/lang/RuntimeException", "java/lang/Exception"], goodWord w = true ∨ notG w = true := by decide +kernel
  intro w hw
  rcases h1 w hw with h | h
  · exact Or.inl (lw_g_mk (wsL_law_x0 w (List.mem_filter.mpr ⟨hw, h⟩)) h)
  · exact Or.inr h
theorem hat_3 : ∀ w ∈ vx_atS "HostelBeds" 196 "java/lang/IndexOutOfBoundsException" ["java/lang/RuntimeException", "java/lang/Exception"], w ∈ lw_g ∨ notG w = true := by
  have h1 : ∀ w ∈ vx_atS "HostelBeds" 196 "java/lang/IndexOutOfBoundsException" ["java/lang/RuntimeException", "java/lang/Exception"], goodWord w = true ∨ notG w = true := by decide +kernel
  intro w hw
  rcases h1 w hw with h | h
  · exact Or.inl (lw_g_mk (wsL_law_x2 w (List.mem_filter.mpr ⟨hw, h⟩)) h)
  · exact Or.inr h
theorem hgood_1 : ∀ w ∈ Cond.classLink "HostelBeds" 55 "java/lang/IllegalStateException" :: Cond.initialized "java/lang/IllegalStateException" :: vx_atS "HostelBeds" 59 "java/lang/IllegalStateException" ["java/lang/RuntimeException", "java/lang/Exception"], vx_ot w = true := by decide +kernel
theorem hgood_2 : ∀ w ∈ Cond.classLink "HostelBeds" 66 "java/lang/IllegalArgumentException" :: Cond.initialized "java/lang/IllegalArgumentException" :: vx_atS "HostelBeds" 70 "java/lang/IllegalArgumentException" ["java/lang/RuntimeException", "java/lang/Exception"], vx_ot w = true := by decide +kernel
theorem hgood_3 : ∀ w ∈ Cond.classLink "HostelBeds" 192 "java/lang/IndexOutOfBoundsException" :: Cond.initialized "java/lang/IndexOutOfBoundsException" :: vx_atS "HostelBeds" 196 "java/lang/IndexOutOfBoundsException" ["java/lang/RuntimeException", "java/lang/Exception"], vx_ot w = true := by decide +kernel
/-- an exception of the kind k over the frame at pc -/
def XO (p : Program) (l : Launch) (e : Env) (R : Room) (s : State) (m : MethodId) (args : Array Value) (below : List Frame) (meth : Method) (c : Code) (nL : Nat) (cy : Nat → ClassId) (D : va_G) (B : Nat) (cells slots : Nat) (Q : State → Prop) (pc : Nat) (lcs : List (Nat × Value)) (st : List Value) (σ : Mem) (Y : va_W) (k : Nat) : Prop :=
  ∀ (H : Heap) (locs : List Loc) (ls : Array Slot) (ce : Cell) (q9 : Addr), PW cy D B σ Y H → va_S (aB B) s.heap H locs → lv_has ls nL lcs → H[q9]? = some ce → ce.vm = .none → s.vm.findClass (excN k) = some ce.cls → vx_W p l e R s m args below meth c H locs cells slots Q (F0 m pc ls st) q9
/-- 'throw new E("text")' stands at pc -/
def ThrowS (own : String) (cc : ByteArray) (pc : Nat) (k : Nat) : Prop := ∃ (ik is ic : Nat) (text : String), decode cc pc = .ok (.new ik, 3) ∧ decode cc (pc + 3) = .ok (.dup, 1) ∧ decode cc (pc + 4) = .ok (.ldc is, 2) ∧ decode cc (pc + 6) = .ok (.invokespecial ic, 3) ∧ decode cc (pc + 9) = .ok (.athrow, 1) ∧ Cond.classLink own ik (excN k) ∈ lw_g ∧ Cond.initialized (excN k) ∈ lw_g ∧ (own, is, text) ∈ strT ∧ excN k ∈ excL ∧ Bundle.fit (excN k) = true ∧ (∀ w ∈ vx_atS own ic (excN k) ["java/lang/RuntimeException", "java/lang/Exception"], w ∈ lw_g ∨ notG w = true) ∧ (∀ w ∈ Cond.classLink own ik (excN k) :: Cond.initialized (excN k) :: vx_atS own ic (excN k) ["java/lang/RuntimeException", "java/lang/Exception"], vx_ot w = true)
def ThrowSW (own : String) (cc : ByteArray) (pc : Nat) (k : Nat) : Prop := ∃ (ik is ic : Nat) (text : String), decode cc pc = .ok (.new ik, 3) ∧ decode cc (pc + 3) = .ok (.dup, 1) ∧ decode cc (pc + 4) = .ok (.ldc_w is, 3) ∧ decode cc (pc + 7) = .ok (.invokespecial ic, 3) ∧ decode cc (pc + 10) = .ok (.athrow, 1) ∧ Cond.classLink own ik (excN k) ∈ lw_g ∧ Cond.initialized (excN k) ∈ lw_g ∧ (own, is, text) ∈ strT ∧ excN k ∈ excL ∧ Bundle.fit (excN k) = true ∧ (∀ w ∈ vx_atS own ic (excN k) ["java/lang/RuntimeException", "java/lang/Exception"], w ∈ lw_g ∨ notG w = true) ∧ (∀ w ∈ Cond.classLink own ik (excN k) :: Cond.initialized (excN k) :: vx_atS own ic (excN k) ["java/lang/RuntimeException", "java/lang/Exception"], vx_ot w = true)
/-- the same of NoSuchElementException, whose constructor is another one's shape -/
def ThrowN (own : String) (cc : ByteArray) (pc : Nat) (k : Nat) : Prop := ∃ (ik is ic : Nat) (text : String), decode cc pc = .ok (.new ik, 3) ∧ decode cc (pc + 3) = .ok (.dup, 1) ∧ decode cc (pc + 4) = .ok (.ldc is, 2) ∧ decode cc (pc + 6) = .ok (.invokespecial ic, 3) ∧ decode cc (pc + 9) = .ok (.athrow, 1) ∧ Cond.classLink own ik (excN 4) ∈ lw_g ∧ Cond.initialized (excN 4) ∈ lw_g ∧ (own, is, text) ∈ strT ∧ (own, ic, k) = ("HostelBeds", 185, 4)
theorem PW_kept {cy : Nat → ClassId} {D : va_G} {B : Nat} {σ : Mem} {Y : va_W} {H H1 : Heap} (h : PW cy D B σ Y H) (hz : H.size ≤ H1.size) (hq : ∀ q : Nat, q < H.size → H1[q]? = H[q]?) : PW cy D B σ Y H1 := ⟨fun k q hk => (h.1 k q hk).kept (hq q.1 (h.1 k q hk).lt), h.2⟩
theorem va_P_kept {D : va_G} {cl : List vw_C} {ws : va_W} {H H1 : Heap} (h : va_P D cl ws H) (hz : H.size ≤ H1.size) (hq : ∀ q : Nat, q < H.size → H1[q]? = H[q]?) : va_P D cl ws H1 := fun k q hk => (h k q hk).kept (hq q.1 (h k q hk).lt)
section XT
variable {p : Program} {l : Launch} {e : Env} {R : Room} {s : State} {m : MethodId} {args : Array Value} {below : List Frame} {meth : Method} {c : Code} {nL : Nat} {cy : Nat → ClassId} {D : va_G} {B : Nat} {ek : EK} {own : String} {cc : ByteArray} {cells slots : Nat} {Q : State → Prop} {pc : Nat} {lcs : List (Nat × Value)} {st : List Value} {ad : Nat} {σ : Mem} {Y : va_W}
theorem x_throwS (C : Cx p s m args c nL cy D B ek own cc) (hlf : l.stackTraces = false) {k mc ms : Nat} {Qc : Array Value → State → Outcome → State → Prop} (ht : ThrowS own cc pc k) (hout : ∀ x ∈ c.exceptionTable.toList, False) (hRf : 5 < R.frames) (hRl : (st.map fun v => v.category).sum + 82 ≤ R.locals) (hRc : cells + 1 ≤ R.cells) (hRs : slots + 6 ≤ R.slots) (hlocks : meth.locks = false) (hc : cells + 1 ≤ mc) (hs : slots + 6 ≤ ms) : X p l e R s m args below meth c nL cy D B cells slots (vx_MQ below Qc (XCX cy D B (.inr k) σ Y) args s mc ms (aB B)) pc lcs st σ Y := by
  obtain ⟨ik, is, ic, text, d0, d3, d4, d6, d9, hk, hini, hstr, hex, hfit, hat, hgood⟩ := ht
  intro H locs ls hP hS hh
  have hE := C.2.2.2.2.2.2.2
  have hts := C.2.2.2.2.1
  obtain ⟨sa, hsa⟩ := hE.2.1 _ hstr
  refine vx_throwS (A := aB B) (names := ["java/lang/RuntimeException", "java/lang/Exception"]) C.1 C.2.1 hlf C.2.2.2.1 hfit (by decide +kernel) (hts _ hk) (hts _ hini) hsa (fun w hw => ?_) hgood hE.2.2.1 hE.2.2.2.1 hS (hh.1.trans C.2.2.1.symm) d0 d3 d4 d6 d9 (fun x hx => (hout x hx).elim) hRf (by show _ + (13 * 3 + 43) ≤ _; omega) hRc hRs hlocks (fun t hvm hz hq => ⟨k, rfl, rfl, PW_kept hP hz hq, Nat.le_trans hS.1 hz, fun q h1 h2 => by rw [hq q (Nat.lt_of_lt_of_le h1 hS.1)]; exact hS.2.1 q h1 h2⟩) hS.2.2 hc hs
  rcases hat w hw with h | h
  · exact hts w h
  · exact va_Nw.use (notG_tab h) (hE.1 w h)
theorem x_throwSW (C : Cx p s m args c nL cy D B ek own cc) (hlf : l.stackTraces = false) {k mc ms : Nat} {Qc : Array Value → State → Outcome → State → Prop} (ht : ThrowSW own cc pc k) (hout : ∀ x ∈ c.exceptionTable.toList, False) (hRf : 5 < R.frames) (hRl : (st.map fun v => v.category).sum + 82 ≤ R.locals) (hRc : cells + 1 ≤ R.cells) (hRs : slots + 6 ≤ R.slots) (hlocks : meth.locks = false) (hc : cells + 1 ≤ mc) (hs : slots + 6 ≤ ms) : X p l e R s m args below meth c nL cy D B cells slots (vx_MQ below Qc (XCX cy D B (.inr k) σ Y) args s mc ms (aB B)) pc lcs st σ Y := by
  obtain ⟨ik, is, ic, text, d0, d3, d4, d6, d9, hk, hini, hstr, hex, hfit, hat, hgood⟩ := ht
  intro H locs ls hP hS hh
  have hE := C.2.2.2.2.2.2.2
  have hts := C.2.2.2.2.1
  obtain ⟨sa, hsa⟩ := hE.2.1 _ hstr
  refine vx_throwSW (A := aB B) (names := ["java/lang/RuntimeException", "java/lang/Exception"]) C.1 C.2.1 hlf C.2.2.2.1 hfit (by decide +kernel) (hts _ hk) (hts _ hini) hsa (fun w hw => ?_) hgood hE.2.2.1 hE.2.2.2.1 hS (hh.1.trans C.2.2.1.symm) d0 d3 d4 d6 d9 (fun x hx => (hout x hx).elim) hRf (by show _ + (13 * 3 + 43) ≤ _; omega) hRc hRs hlocks (fun t hvm hz hq => ⟨k, rfl, rfl, PW_kept hP hz hq, Nat.le_trans hS.1 hz, fun q h1 h2 => by rw [hq q (Nat.lt_of_lt_of_le h1 hS.1)]; exact hS.2.1 q h1 h2⟩) hS.2.2 hc hs
  rcases hat w hw with h | h
  · exact hts w h
  · exact va_Nw.use (notG_tab h) (hE.1 w h)
theorem x_throwN (C : Cx p s m args c nL cy D B ek own cc) (hlf : l.stackTraces = false) {k mc ms : Nat} {Qc : Array Value → State → Outcome → State → Prop} (ht : ThrowN own cc pc k) (hout : ∀ x ∈ c.exceptionTable.toList, False) (hRf : 5 < R.frames) (hRl : (st.map fun v => v.category).sum + 82 ≤ R.locals) (hRc : cells + 1 ≤ R.cells) (hRs : slots + 6 ≤ R.slots) (hlocks : meth.locks = false) (hc : cells + 1 ≤ mc) (hs : slots + 6 ≤ ms) : X p l e R s m args below meth c nL cy D B cells slots (vx_MQ below Qc (XCX cy D B (.inr k) σ Y) args s mc ms (aB B)) pc lcs st σ Y := by
  obtain ⟨ik, is, ic, text, d0, d3, d4, d6, d9, hk, hini, hstr, he⟩ := ht
  obtain ⟨he1, he2⟩ := Prod.mk.inj he
  obtain ⟨he3, he4⟩ := Prod.mk.inj he2
  subst he1
  subst he3
  subst he4
  intro H locs ls hP hS hh
  have hE := C.2.2.2.2.2.2.2
  have hts := C.2.2.2.2.1
  obtain ⟨sa, hsa⟩ := hE.2.1 _ hstr
  have e4 : excN 4 = "java/util/NoSuchElementException" := rfl
  rw [e4] at hk hini
  have ho : ∀ w, w ∈ lw_g → vx_ot w = true := fun w hw => by
    have h1 : goodWord w = true := (List.mem_filter.mp hw).2
    unfold vx_ot
    rw [h1, Bool.or_true]
  refine vx_throwN (A := aB B) (ix := 13) (rx := prog_32_method_4_code) C.1 C.2.1 hlf rN_0 rN_1 rN_2 rN_5 C.2.2.2.1 (by decide +kernel) (hts _ hk) (hts _ hini) hsa (fun w hw => ?_) (fun w hw => ?_) hE.2.2.1 hE.2.2.2.1 hS (hh.1.trans C.2.2.1.symm) d0 d3 d4 d6 d9 (fun x hx => (hout x hx).elim) hRf hRl hRc hRs hlocks (fun t hvm hz hq => ⟨4, rfl, rfl, PW_kept hP hz hq, Nat.le_trans hS.1 hz, fun q h1 h2 => by rw [hq q (Nat.lt_of_lt_of_le h1 hS.1)]; exact hS.2.1 q h1 h2⟩) hS.2.2 hc hs
  · rcases hatN_4 w hw with h | h
    · exact hts w h
    · exact va_Nw.use (notG_tab h) (hE.1 w h)
  · rcases List.mem_cons.mp hw with rfl | hw
    · exact ho _ hk
    · rcases List.mem_cons.mp hw with rfl | hw
      · exact ho _ hini
      · exact hgoodN_4 w hw
theorem x_out (C : Cx p s m args c nL cy D B ek own cc) {k mc ms : Nat} {Qc : Array Value → State → Outcome → State → Prop} (hout : ∀ x ∈ c.exceptionTable.toList, False) (hlocks : meth.locks = false) (hc : cells ≤ mc) (hs : slots ≤ ms) : XO p l e R s m args below meth c nL cy D B cells slots (vx_MQ below Qc (XCX cy D B (.inr k) σ Y) args s mc ms (aB B)) pc lcs st σ Y k := by
  intro H locs ls ce q9 hP hS hh hc9 hv9 hcl9
  exact vx_out (fun x hx => (hout x hx).elim) hlocks hc9 hv9 hcl9 (fun t ht hvm => ⟨k, rfl, rfl, by rw [ht]; exact hP, by rw [ht]; exact hS.1, fun q h1 h2 => by rw [ht]; exact hS.2.1 q h1 h2⟩) hS.2.2 hc hs
theorem x_callVX (C : Cx p s m args c nL cy D B ek own cc) {y : MethodName} {bytes : ByteArray} {maxL index mc ms cells2 slots2 : Nat} {ret : Option FieldType} {rm : Room} {As rest : List Value} {out : Option Value ⊕ Nat} {σ' : Mem} {Y' : va_W} {C1 : String} {T : u_T} {N ci : Nat} {o : Nat} {fs : List Value} (hinst : Cond.instanceMethod y ∈ lw_g) (hsel : Cond.selects C1 y y ∈ lw_g) (he : (wl cy B σ Y)[o]? = some (ad, .inr (ci, fs))) (hc : vwCl[ci]? = some (C1, T, N)) (hM : CTX l cy D B ek y bytes maxL ret rm mc ms (.ref ad :: As) σ Y out σ' Y') (hrc : rm.cells = mc) (hrs : rm.slots = ms) (hR : rm.frames + 1 ≤ R.frames ∧ 8 + (maxL + 11) + rm.locals ≤ R.locals) (hcode : Cond.code y bytes maxL ret ∈ lw_g) (hini : Cond.initialized y.cls ∈ lw_g) (hy : y.cls ≠ "java/lang/invoke/MethodHandle" ∧ y.cls ≠ "java/lang/invoke/VarHandle") (hlen : (parseMethodDescriptor y.desc).map (fun d => d.parameters.length) = some As.length) (hlink : Cond.methodLink own index y ∈ lw_g) (hstk : st = As.reverse ++ .ref ad :: rest) (hW : (rest.map fun v => v.category).sum ≤ 8) (hdg : decode cc pc = .ok (.invokevirtual index, 3)) (hcs : cells2 ≤ R.cells ∧ slots2 ≤ R.slots) (hc2 : cells + mc = cells2) (hs2 : slots + ms = slots2) (kk : ∀ v, out = .inl v → X p l e R s m args below meth c nL cy D B cells2 slots2 Q (pc + 3) lcs (v.toList ++ rest) σ' Y') (kx : ∀ k, out = .inr k → XO p l e R s m args below meth c nL cy D B cells2 slots2 Q pc lcs rest σ' Y' k) : X p l e R s m args below meth c nL cy D B cells slots Q pc lcs st σ Y := by
  subst hc2
  subst hs2
  intro H locs ls hP hS hh T hT XS
  have hts := C.2.2.2.2.1
  have hK := C.2.2.2.2.2.1
  have hws : ∀ w ∈ wsA y bytes maxL ret, ∀ (a9 : Array Value) (U : State), s.WarmedH U.vm → w.before a9 U = true := by
    intro w hw a9 U hW9
    rcases List.mem_cons.mp hw with rfl | hw
    · exact word_at hW9 (good_of_word (lw_g_good _ hcode)) (hts _ hcode)
    · exact word_at hW9 (good_of_word (lw_g_good _ hw)) (hts _ hw)
  have hlen9 : ∀ sig, parseMethodDescriptor y.desc = some sig → As.length = sig.parameters.length := by
    intro sig h9
    rw [h9] at hlen
    exact (Option.some.inj hlen).symm
  have run := vx_runV (e := e) (locs := locs) (meth := meth) (below := below) (g := F0 m pc ls st) (rest := rest) (As := As) ⟨C.1, C.2.1, C.2.2.1, C.2.2.2.1, hts⟩ hM (n := As.length) ⟨⟨hrc, hrs, hR.1, hR.2, hws, List.mem_cons_self, hts _ hcode, hts _ hini, hy, hlen9, hts _ hlink⟩, hts _ hinst, hts _ hsel⟩ ⟨fun a U g mk q => by obtain ⟨q0, qP, qK, qS, qE⟩ := q; exact ⟨q0, qP, va_K.moved (u := U) (U := U.calling g mk a) (Vm.Alike.refl U.vm) qK, qS, qE.warm (U' := U.calling g mk a) (State.WarmedH.refl U) (Nat.le_refl _) (fun _ _ _ => rfl)⟩, va_recv hK hP.1 hc he, fun U hU hW9 => ⟨rfl, by rw [hU]; exact hP, va_K.moved hW9.alike hK, by rw [hU]; exact Nat.le_trans C.2.2.2.2.2.2.1 hS.1, by rw [hU]; exact C.2.2.2.2.2.2.2.warm hW9 hS.1 hS.2.1⟩⟩ rfl rfl hh.1 hstk (lv_room hW) hdg (cells := cells) (slots := slots) ⟨hcs.1, hcs.2⟩
  rcases run T hT XS with ⟨v9, st0, t, T', L, h0, X', hL, e1, e2, ⟨v8, ho, hv, hP', hF⟩, hg⟩ | ⟨q9, st0, t, T', L, E, ce, h0, X', hL, e1, e2, ⟨k9, ho, hE9, hP', hF⟩, hce, hcv, hcl, hg⟩
  · cases hv
    obtain ⟨t2, a1, b1⟩ := kk v9 ho T'.heap (locs ++ L) ls (by rw [e1]; exact hP') ⟨Nat.le_trans hS.1 (by rw [e1, ← h0]; exact hF.1), fun q h1 h2 => by rw [e1, hF.2 q (by rw [h0]; exact Nat.lt_of_lt_of_le h1 hS.1) h2, h0]; exact hS.2.1 q h1 h2, fun q hq => (List.mem_append.mp hq).elim (hS.2.2 q) (hL q)⟩ hh T' rfl X'
    exact ⟨t2, hg t2 a1, b1⟩
  · subst hE9
    obtain ⟨t2, a1, b1⟩ := kx k9 ho T'.heap (locs ++ L) ls ce q9 (by rw [e1]; exact hP') ⟨Nat.le_trans hS.1 (by rw [e1, ← h0]; exact hF.1), fun q h1 h2 => by rw [e1, hF.2 q (by rw [h0]; exact Nat.lt_of_lt_of_le h1 hS.1) h2, h0]; exact hS.2.1 q h1 h2, fun q hq => (List.mem_append.mp hq).elim (hS.2.2 q) (hL q)⟩ hh (by rw [e1]; exact hce) hcv hcl T' rfl X'
    exact ⟨t2, hg.trans a1, b1⟩
theorem x_callSX (C : Cx p s m args c nL cy D B ek own cc) {y : MethodName} {bytes : ByteArray} {maxL index mc ms cells2 slots2 : Nat} {ret : Option FieldType} {rm : Room} {As rest : List Value} {out : Option Value ⊕ Nat} {σ' : Mem} {Y' : va_W} (hstat : Cond.static y ∈ lw_g) (hM : CTX l cy D B ek y bytes maxL ret rm mc ms As σ Y out σ' Y') (hrc : rm.cells = mc) (hrs : rm.slots = ms) (hR : rm.frames + 1 ≤ R.frames ∧ 8 + (maxL + 11) + rm.locals ≤ R.locals) (hcode : Cond.code y bytes maxL ret ∈ lw_g) (hini : Cond.initialized y.cls ∈ lw_g) (hy : y.cls ≠ "java/lang/invoke/MethodHandle" ∧ y.cls ≠ "java/lang/invoke/VarHandle") (hlen : (parseMethodDescriptor y.desc).map (fun d => d.parameters.length) = some As.length) (hlink : Cond.methodLink own index y ∈ lw_g) (hstk : st = As.reverse ++ rest) (hW : (rest.map fun v => v.category).sum ≤ 8) (hdg : decode cc pc = .ok (.invokestatic index, 3)) (hcs : cells2 ≤ R.cells ∧ slots2 ≤ R.slots) (hc2 : cells + mc = cells2) (hs2 : slots + ms = slots2) (kk : ∀ v, out = .inl v → X p l e R s m args below meth c nL cy D B cells2 slots2 Q (pc + 3) lcs (v.toList ++ rest) σ' Y') (kx : ∀ k, out = .inr k → XO p l e R s m args below meth c nL cy D B cells2 slots2 Q pc lcs rest σ' Y' k) : X p l e R s m args below meth c nL cy D B cells slots Q pc lcs st σ Y := by
  subst hc2
  subst hs2
  intro H locs ls hP hS hh T hT XS
  have hts := C.2.2.2.2.1
  have hK := C.2.2.2.2.2.1
  have hws : ∀ w ∈ wsA y bytes maxL ret, ∀ (a9 : Array Value) (U : State), s.WarmedH U.vm → w.before a9 U = true := by
    intro w hw a9 U hW9
    rcases List.mem_cons.mp hw with rfl | hw
    · exact word_at hW9 (good_of_word (lw_g_good _ hcode)) (hts _ hcode)
    · exact word_at hW9 (good_of_word (lw_g_good _ hw)) (hts _ hw)
  have hlen9 : ∀ sig, parseMethodDescriptor y.desc = some sig → As.length = sig.parameters.length := by
    intro sig h9
    rw [h9] at hlen
    exact (Option.some.inj hlen).symm
  have run := vx_runS (e := e) (locs := locs) (meth := meth) (below := below) (g := F0 m pc ls st) (rest := rest) (As := As) ⟨C.1, C.2.1, C.2.2.1, C.2.2.2.1, hts⟩ hM (n := As.length) ⟨⟨hrc, hrs, hR.1, hR.2, hws, List.mem_cons_self, hts _ hcode, hts _ hini, hy, hlen9, hts _ hlink⟩, hts _ hstat⟩ ⟨fun a U g mk q => by obtain ⟨q0, qP, qK, qS, qE⟩ := q; exact ⟨q0, qP, va_K.moved (u := U) (U := U.calling g mk a) (Vm.Alike.refl U.vm) qK, qS, qE.warm (U' := U.calling g mk a) (State.WarmedH.refl U) (Nat.le_refl _) (fun _ _ _ => rfl)⟩, fun U hU hW9 => ⟨rfl, by rw [hU]; exact hP, va_K.moved hW9.alike hK, by rw [hU]; exact Nat.le_trans C.2.2.2.2.2.2.1 hS.1, by rw [hU]; exact C.2.2.2.2.2.2.2.warm hW9 hS.1 hS.2.1⟩⟩ rfl rfl hh.1 hstk (lv_room hW) hdg (cells := cells) (slots := slots) ⟨hcs.1, hcs.2⟩
  rcases run T hT XS with ⟨v9, st0, t, T', L, h0, X', hL, e1, e2, ⟨v8, ho, hv, hP', hF⟩, hg⟩ | ⟨q9, st0, t, T', L, E, ce, h0, X', hL, e1, e2, ⟨k9, ho, hE9, hP', hF⟩, hce, hcv, hcl, hg⟩
  · cases hv
    obtain ⟨t2, a1, b1⟩ := kk v9 ho T'.heap (locs ++ L) ls (by rw [e1]; exact hP') ⟨Nat.le_trans hS.1 (by rw [e1, ← h0]; exact hF.1), fun q h1 h2 => by rw [e1, hF.2 q (by rw [h0]; exact Nat.lt_of_lt_of_le h1 hS.1) h2, h0]; exact hS.2.1 q h1 h2, fun q hq => (List.mem_append.mp hq).elim (hS.2.2 q) (hL q)⟩ hh T' rfl X'
    exact ⟨t2, hg t2 a1, b1⟩
  · subst hE9
    obtain ⟨t2, a1, b1⟩ := kx k9 ho T'.heap (locs ++ L) ls ce q9 (by rw [e1]; exact hP') ⟨Nat.le_trans hS.1 (by rw [e1, ← h0]; exact hF.1), fun q h1 h2 => by rw [e1, hF.2 q (by rw [h0]; exact Nat.lt_of_lt_of_le h1 hS.1) h2, h0]; exact hS.2.1 q h1 h2, fun q hq => (List.mem_append.mp hq).elim (hS.2.2 q) (hL q)⟩ hh (by rw [e1]; exact hce) hcv hcl T' rfl X'
    exact ⟨t2, hg.trans a1, b1⟩
theorem x_widen {cells2 slots2 : Nat} (h1 : cells ≤ cells2) (h2 : slots ≤ slots2) (kk : X p l e R s m args below meth c nL cy D B cells2 slots2 Q pc lcs st σ Y) : X p l e R s m args below meth c nL cy D B cells slots Q pc lcs st σ Y := fun H locs ls hP hS hh => W.widen h1 h2 (kk H locs ls hP hS hh)
end XT
theorem met_XX {l : Launch} {y : MethodName} {b : ByteArray} {n : Nat} {r : Option FieldType} {rm : Room} {mc ms : Nat} {av : List Value} {cy : Nat → ClassId} {D : va_G} {B : Nat} {ek : EK} {own : String} {σ σ' : Mem} {Y Y' : va_W} {out : Option Value ⊕ Nat} (hy : plainName y.cls = true) (hown : y.cls = own) (hlen : (lg_sl av).length ≤ n)
    (body : ∀ p e s m args below meth c, Cx p s m args c n cy D B ek own b → meth.sig.returnType = r → meth.locks = false → (∀ x ∈ c.exceptionTable.toList, False) → X p l e rm s m args below meth c n cy D B 0 0 (vx_MQ below (QX cy D B out σ' Y') (XCX cy D B out σ' Y') args s mc ms (aB B)) 0 (lv_args 0 av) [] σ Y) : CTX l cy D B ek y b n r rm mc ms av σ Y out σ' Y' := by
  refine vx_ofW (cc := b) (maxL := n) (ret := r) hy rfl ?_
  intro p e s m args below meth c s₁ Bd hml htab hv
  obtain ⟨rfl, hP, hK, hB, hE⟩ := hv
  have hts : ∀ w ∈ lw_g, w.before av.toArray s = true := fun w hw => atoms_spec (ws := wsA y b n r) Bd.pre w (List.mem_cons_of_mem _ hw)
  have hown9 : s.vm.findClass own = some m.cls := hown ▸ findClass_of_methodNamed Bd.named
  have k := body p e s m av.toArray below meth c ⟨Bd.exec, Bd.bytes, hml, hown9, hts, hK, hB, hE⟩ Bd.returns Bd.notSynchronized htab
  have hl := lv_entry av (n := n) hlen
  rw [lg_entry_eq]
  exact k s.heap [] _ hP va_S.rf hl
theorem x_lretX {p : Program} {l : Launch} {e : Env} {R : Room} {s : State} {m : MethodId} {args : Array Value} {below : List Frame} {meth : Method} {c : Code} {nL : Nat} {cy : Nat → ClassId} {D : va_G} {B : Nat} {ek : EK} {own : String} {cc : ByteArray} {cells slots : Nat} {pc : Nat} {lcs : List (Nat × Value)} {σ : Mem} {Y : va_W} (C : Cx p s m args c nL cy D B ek own cc) {x : Int64} {mc ms : Nat} {XC : String → State → State → Prop} (hr : meth.sig.returnType = some .long) (hlocks : meth.locks = false)  (hdg : decode cc pc = .ok (.lreturn, 1)) (hc : cells ≤ mc) (hs : slots ≤ ms) : X p l e R s m args below meth c nL cy D B cells slots (vx_MQ below (QX cy D B (.inl (some (.long x))) σ Y) XC args s mc ms (aB B)) pc lcs [.long x] σ Y :=
  fun H locs ls hP hS hh => W.widen hc hs (vx_ret (W.lret C.1 C.2.1 hr (fun t ht hW => ⟨_, rfl, rfl, by rw [ht]; exact hP, hS.F ht⟩) hS.2.2 hdg hlocks))
theorem x_zretX {p : Program} {l : Launch} {e : Env} {R : Room} {s : State} {m : MethodId} {args : Array Value} {below : List Frame} {meth : Method} {c : Code} {nL : Nat} {cy : Nat → ClassId} {D : va_G} {B : Nat} {ek : EK} {own : String} {cc : ByteArray} {cells slots : Nat} {pc : Nat} {lcs : List (Nat × Value)} {σ : Mem} {Y : va_W} (C : Cx p s m args c nL cy D B ek own cc) {ty : FieldType} {x : Int32} {mc ms : Nat} {XC : String → State → State → Prop} (hr : meth.sig.returnType = some ty) (hlocks : meth.locks = false) (hn : narrow ty (.int x) = .int x) (hdg : decode cc pc = .ok (.ireturn, 1)) (hc : cells ≤ mc) (hs : slots ≤ ms) : X p l e R s m args below meth c nL cy D B cells slots (vx_MQ below (QX cy D B (.inl (some (.int x))) σ Y) XC args s mc ms (aB B)) pc lcs [.int x] σ Y :=
  fun H locs ls hP hS hh => W.widen hc hs (vx_ret (W.zret C.1 C.2.1 hr hn (fun t ht hW => ⟨_, rfl, rfl, by rw [ht]; exact hP, hS.F ht⟩) hS.2.2 hdg hlocks))
theorem x_vretX {p : Program} {l : Launch} {e : Env} {R : Room} {s : State} {m : MethodId} {args : Array Value} {below : List Frame} {meth : Method} {c : Code} {nL : Nat} {cy : Nat → ClassId} {D : va_G} {B : Nat} {ek : EK} {own : String} {cc : ByteArray} {cells slots : Nat} {pc : Nat} {lcs : List (Nat × Value)} {σ : Mem} {Y : va_W} (C : Cx p s m args c nL cy D B ek own cc) {mc ms : Nat} {XC : String → State → State → Prop} (hr : meth.sig.returnType = none) (hlocks : meth.locks = false)  (hdg : decode cc pc = .ok (.return_, 1)) (hc : cells ≤ mc) (hs : slots ≤ ms) : X p l e R s m args below meth c nL cy D B cells slots (vx_MQ below (QX cy D B (.inl none) σ Y) XC args s mc ms (aB B)) pc lcs [] σ Y :=
  fun H locs ls hP hS hh => W.widen hc hs (vx_ret (W.vret C.1 C.2.1 hr (fun t ht hW => ⟨_, rfl, rfl, by rw [ht]; exact hP, hS.F ht⟩) hS.2.2 hdg hlocks))
/-- a method with an exception table that lets nothing through -/
def CTW (l : Launch) (cy : Nat → ClassId) (D : va_G) (B : Nat) (ek : EK) (y : MethodName) (b : ByteArray) (n : Nat) (r : Option FieldType) (hh : List (Nat × Nat × Nat × Nat)) (rm : Room) (mc ms : Nat) (av : List Value) (σ : Mem) (Y : va_W) (v : Option Value) (σ' : Mem) (Y' : va_W) : Prop :=
  Met l y (.codeWith y b n r hh :: lw_g) rm (va_Pc av (WP cy D B ek σ Y)) (QR cy D B v σ' Y') mc ms (aB B)
theorem met_of_vx {l : Launch} {y : MethodName} {ws : List Cond} {rm : Room} {Pc : Array Value → State → Prop} {Qc : Array Value → State → Outcome → State → Prop} {mc ms : Nat} {free : Addr → Prop} (h : vx_Met l y ws rm Pc Qc (fun _ _ _ => False) mc ms free) : Met l y ws rm Pc Qc mc ms free := by
  intro p e ha hc hk s m args below hf happ hP hK
  obtain ⟨n, o, h1, h2, h3, h4⟩ := h p e ha hc hk s m args below hf happ hP hK
  refine ⟨n, o, h1, h2, h3, ?_⟩
  rcases h4 with h | ⟨q, -, E, ce, L, hx, -⟩
  · exact h
  · exact hx.elim
theorem met_XW {l : Launch} {y : MethodName} {b : ByteArray} {n : Nat} {r : Option FieldType} {hh : List (Nat × Nat × Nat × Nat)} {rm : Room} {mc ms : Nat} {av : List Value} {cy : Nat → ClassId} {D : va_G} {B : Nat} {ek : EK} {own : String} {σ σ' : Mem} {Y Y' : va_W} {v : Option Value} (hy : plainName y.cls = true) (hown : y.cls = own) (hlen : (lg_sl av).length ≤ n)
    (body : ∀ p e s m args below meth c, Cx p s m args c n cy D B ek own b → meth.sig.returnType = r → meth.locks = false → c.exceptionTable.toList = tableOf hh → X p l e rm s m args below meth c n cy D B 0 0 (vx_MQ below (QX cy D B (.inl v) σ' Y') (fun _ _ _ => False) args s mc ms (aB B)) 0 (lv_args 0 av) [] σ Y) : CTW l cy D B ek y b n r hh rm mc ms av σ Y v σ' Y' := by
  have h : vx_Met l y (.codeWith y b n r hh :: lw_g) rm (va_Pc av (WP cy D B ek σ Y)) (QX cy D B (.inl v) σ' Y') (fun _ _ _ => False) mc ms (aB B) := by
    refine vx_ofWH (cc := b) (maxL := n) (ret := r) hy rfl ?_
    intro p e s m args below meth c s₁ Bd hml hv
    obtain ⟨rfl, hP, hK, hB, hE⟩ := hv
    have hall := atoms_spec (ws := Cond.codeWith y b n r hh :: lw_g) Bd.pre
    have hts : ∀ w ∈ lw_g, w.before av.toArray s = true := fun w hw => hall w (List.mem_cons_of_mem _ hw)
    have hown9 : s.vm.findClass own = some m.cls := hown ▸ findClass_of_methodNamed Bd.named
    have k := body p e s m av.toArray below meth c ⟨Bd.exec, Bd.bytes, hml, hown9, hts, hK, hB, hE⟩ Bd.returns Bd.notSynchronized (vx_table (x := y) Bd (hall _ List.mem_cons_self))
    have hl := lv_entry av (n := n) hlen
    rw [lg_entry_eq]
    exact k s.heap [] _ hP va_S.rf hl
  intro p e ha hc hk s m args below hf happ hP hK
  obtain ⟨n9, o, h1, h2, h3, h4, h5⟩ := met_of_vx h p e ha hc hk s m args below hf happ hP hK
  obtain ⟨v9, hv9, hq⟩ := h4
  cases hv9
  exact ⟨n9, o, h1, h2, h3, hq, h5⟩
section XW
variable {p : Program} {l : Launch} {e : Env} {R : Room} {s : State} {m : MethodId} {args : Array Value} {below : List Frame} {meth : Method} {c : Code} {nL : Nat} {cy : Nat → ClassId} {D : va_G} {B : Nat} {ek : EK} {own : String} {cc : ByteArray} {cells slots : Nat} {Q : State → Prop} {pc : Nat} {lcs : List (Nat × Value)} {st : List Value} {ad : Nat} {σ : Mem} {Y : va_W}
theorem x_catch (C : Cx p s m args c nL cy D B ek own cc) {k : Nat} {hh : List (Nat × Nat × Nat × Nat)} (htab : c.exceptionTable.toList = tableOf hh) (pre : List ExceptionTableEntry) (x : ExceptionTableEntry) (suf : List ExceptionTableEntry) (hsplit : tableOf hh = pre ++ x :: suf) (hpass : ∀ z ∈ pre, z.catchType ≠ 0 ∧ ∃ nm : String, Cond.classLink own z.catchType nm ∈ lw_g ∧ (excN k, nm) ∈ ncL) (hx : covers x pc = true) (h0 : x.catchType ≠ 0) (hlink : Cond.classLink own x.catchType (excN k) ∈ lw_g) (hex : notG (.castable (excN k) (excN k)) = true) (kk : ∀ q9 : Nat, X p l e R s m args below meth c nL cy D B cells slots Q x.handlerPc lcs [.ref q9] σ Y) : XO p l e R s m args below meth c nL cy D B cells slots Q pc lcs st σ Y k := by
  intro H locs ls ce q9 hP hS hh9 hc9 hv9 hcl9
  have hE := C.2.2.2.2.2.2.2
  have hts := C.2.2.2.2.1
  refine vx_catch C.2.2.2.1 pre x suf (htab.trans hsplit) (fun z hz => ?_) hx h0 (hts _ hlink) (va_Nw.use rfl (hE.1 _ hex)) hc9 hv9 hcl9 (kk q9 H locs ls hP hS hh9)
  obtain ⟨h1, nm, h2, h3⟩ := hpass z hz
  exact Or.inr ⟨h1, nm, hts _ h2, hE.2.2.2.2.2.2.2.2.1 _ h3⟩
theorem x_callSW (C : Cx p s m args c nL cy D B ek own cc) {y : MethodName} {bytes : ByteArray} {maxL index mc ms cells2 slots2 : Nat} {ret : Option FieldType} {hh9 : List (Nat × Nat × Nat × Nat)} {rm : Room} {As rest : List Value} {v : Option Value} {σ' : Mem} {Y' : va_W} (hstat : Cond.static y ∈ lw_g) (hM : CTW l cy D B ek y bytes maxL ret hh9 rm mc ms As σ Y v σ' Y') (hrc : rm.cells = mc) (hrs : rm.slots = ms) (hR : rm.frames + 1 ≤ R.frames ∧ 8 + (maxL + 11) + rm.locals ≤ R.locals) (hcode : Cond.codeWith y bytes maxL ret hh9 ∈ lw_g) (hini : Cond.initialized y.cls ∈ lw_g) (hy : y.cls ≠ "java/lang/invoke/MethodHandle" ∧ y.cls ≠ "java/lang/invoke/VarHandle") (hlen : (parseMethodDescriptor y.desc).map (fun d => d.parameters.length) = some As.length) (hlink : Cond.methodLink own index y ∈ lw_g) (hstk : st = As.reverse ++ rest) (hW : (rest.map fun v => v.category).sum ≤ 8) (hdg : decode cc pc = .ok (.invokestatic index, 3)) (hcs : cells2 ≤ R.cells ∧ slots2 ≤ R.slots) (hc2 : cells + mc = cells2) (hs2 : slots + ms = slots2) (kk : X p l e R s m args below meth c nL cy D B cells2 slots2 Q (pc + 3) lcs (v.toList ++ rest) σ' Y') : X p l e R s m args below meth c nL cy D B cells slots Q pc lcs st σ Y := by
  subst hc2
  subst hs2
  intro H locs ls hP hS hh T hT XS
  have hts := C.2.2.2.2.1
  have hK := C.2.2.2.2.2.1
  have hws : ∀ w ∈ (Cond.codeWith y bytes maxL ret hh9 :: lw_g), ∀ (a9 : Array Value) (U : State), s.WarmedH U.vm → w.before a9 U = true := by
    intro w hw a9 U hW9
    rcases List.mem_cons.mp hw with rfl | hw
    · exact word_at hW9 (good_of_word (lw_g_good _ hcode)) (hts _ hcode)
    · exact word_at hW9 (good_of_word (lw_g_good _ hw)) (hts _ hw)
  have hlen9 : ∀ sig, parseMethodDescriptor y.desc = some sig → As.length = sig.parameters.length := by
    intro sig h9
    rw [h9] at hlen
    exact (Option.some.inj hlen).symm
  have run := vx_runSW (e := e) (locs := locs) (meth := meth) (below := below) (g := F0 m pc ls st) (rest := rest) (As := As) ⟨C.1, C.2.1, C.2.2.1, C.2.2.2.1, hts⟩ hM (n := As.length) ⟨⟨hrc, hrs, hR.1, hR.2, hws, List.mem_cons_self⟩, hts _ hcode, hts _ hini, hy, hlen9, hts _ hlink, hts _ hstat⟩ ⟨fun a U g mk q => by obtain ⟨q0, qP, qK, qS, qE⟩ := q; exact ⟨q0, qP, va_K.moved (u := U) (U := U.calling g mk a) (Vm.Alike.refl U.vm) qK, qS, qE.warm (U' := U.calling g mk a) (State.WarmedH.refl U) (Nat.le_refl _) (fun _ _ _ => rfl)⟩, fun U hU hW9 => ⟨rfl, by rw [hU]; exact hP, va_K.moved hW9.alike hK, by rw [hU]; exact Nat.le_trans C.2.2.2.2.2.2.1 hS.1, by rw [hU]; exact C.2.2.2.2.2.2.2.warm hW9 hS.1 hS.2.1⟩⟩ rfl rfl hh.1 hstk (lv_room hW) hdg (cells := cells) (slots := slots) ⟨hcs.1, hcs.2⟩
  obtain ⟨v9, st0, t, T', L, h0, X', hL, e1, e2, ⟨hv, hP', hF⟩, hg⟩ := run T hT XS
  cases hv
  obtain ⟨t2, a1, b1⟩ := kk T'.heap (locs ++ L) ls (by rw [e1]; exact hP') ⟨Nat.le_trans hS.1 (by rw [e1, ← h0]; exact hF.1), fun q h1 h2 => by rw [e1, hF.2 q (by rw [h0]; exact Nat.lt_of_lt_of_le h1 hS.1) h2, h0]; exact hS.2.1 q h1 h2, fun q hq => (List.mem_append.mp hq).elim (hS.2.2 q) (hL q)⟩ hh T' rfl X'
  exact ⟨t2, hg t2 a1, b1⟩
end XW
