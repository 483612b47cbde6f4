/-! a throw of NoSuchElementException, walked -/
set_option maxHeartbeats 1000000 in
theorem vx_throwN {p : Program} {l : Launch} {e : Env} {R : Room} {s : State} {m : MethodId} {args : Array Value} {below : List Frame} {meth : Method} {c : Code} {H : Heap} {locs : List Loc} {cells slots : Nat} {free : Nat → Prop} {XC : String → State → State → Prop} {Qc : Array Value → State → Outcome → State → Prop} {ls : Array Slot} {rest : List Value} {cc : ByteArray} {pc : Nat} (hexec : p.tables.exec = Jvm.exec) (hb : c.code = cc) (hl : l.stackTraces = false) {own cls text : String} {ix : Nat} {rx : ByteArray} (x0 : decode rx 0 = .ok (.aload_n 0, 1)) (x1 : decode rx 1 = .ok (.aload_n 1, 1)) (x2 : decode rx 2 = .ok (.invokespecial ix, 3)) (x5 : decode rx 5 = .ok (.return_, 1)) {ik is ic mc ms sa : Nat} {A : Nat → Prop}
    (hown : s.vm.findClass own = some m.cls) (hcls : Bundle.fit cls = true)
    (hk : (Cond.classLink own ik cls).before args s = true) (hini : (Cond.initialized cls).before args s = true) (hstr : vk_R own is text sa s) (hat : ∀ w ∈ (ownN own ic cls ix rx).filter vx_no, w.before args s = true)
    (hgood : ∀ w ∈ Cond.classLink own ik cls :: Cond.initialized cls :: (ownN own ic cls ix rx).filter vx_no, vx_ot w = true)
    (hU : vx_Zq Bundle.tN "UNASSIGNED_STACK" Bundle.steD A s s.heap) (hN : vx_Zq Bundle.tN "SUPPRESSED_SENTINEL" Bundle.listD A s s.heap) (hS : va_S A s.heap H locs) (hsize : ls.size = c.maxLocals)
    (d0 : decode cc pc = .ok (.new ik, 3)) (d3 : decode cc (pc + 3) = .ok (.dup, 1)) (d4 : decode cc (pc + 4) = .ok (.ldc is, 2)) (d6 : decode cc (pc + 6) = .ok (.invokespecial ic, 3)) (d9 : decode cc (pc + 9) = .ok (.athrow, 1))
    (hout : ∀ x ∈ c.exceptionTable.toList, covers x (pc + 9) = false)
    (hRframes : 5 < R.frames) (hRlocals : (rest.map fun v => v.category).sum + 82 ≤ R.locals) (hRcells : cells + 1 ≤ R.cells) (hRslots : slots + 6 ≤ R.slots) (hlocks : meth.locks = false)
    (hx : ∀ t : State, s.vm.Alike t.vm → H.size ≤ t.heap.size → (∀ q : Nat, q < H.size → t.heap[q]? = H[q]?) → XC cls s t)
    (hf : ∀ z ∈ locs, free z.base) (hc : cells + 1 ≤ mc) (hs : slots + 6 ≤ ms) :
    W p l e R s m args below meth c H locs cells slots (vx_MQ below Qc XC args s mc ms free) (F0 m pc ls rest) := by
  intro T hT X
  have htr : e.platform.stackTraces = false := (show e.platform.stackTraces = l.stackTraces by rw [X.admits.platform]).trans hl
  have Y := vx_rebase X (R' := { frames := R.frames, locals := R.locals, cells := 1, slots := 6 }) (Nat.le_refl _) (Nat.le_refl _) hRcells hRslots
  obtain ⟨s', hA⟩ : ∃ z, z = (T.setVm s.vm).setFrames (.invoking m args :: below) := ⟨_, rfl⟩
  rw [← hA] at Y
  have hvm : s'.vm = s.vm := by rw [hA]; rfl
  have hhp : s'.heap = H := by rw [hA]; exact hT
  have hW0 : s.WarmedH s'.vm := by rw [hvm]; exact State.WarmedH.refl s
  have hat' : ∀ w ∈ (ownN own ic cls ix rx).filter vx_no, w.before args s' = true := fun w hw => vx_ot_at hW0 hvm.symm (hgood w (List.mem_cons_of_mem _ (List.mem_cons_of_mem _ hw))) (hat w hw)
  have hk' : (Cond.classLink own ik cls).before args s' = true := vx_ot_at hW0 hvm.symm (hgood _ List.mem_cons_self) hk
  have hini' : (Cond.initialized cls).before args s' = true := vx_ot_at hW0 hvm.symm (hgood _ (List.mem_cons_of_mem _ List.mem_cons_self)) hini
  have hU' : vx_Zq Bundle.tN "UNASSIGNED_STACK" Bundle.steD A s' s'.heap := by rw [hhp]; exact vx_Zq.moved hW0.alike (hU.kept hS.2.1)
  have hN' : vx_Zq Bundle.tN "SUPPRESSED_SENTINEL" Bundle.listD A s' s'.heap := by rw [hhp]; exact vx_Zq.moved hW0.alike (hN.kept hS.2.1)
  have h : ∀ w ∈ ownN own ic cls ix rx, w.before args s' = true := vx_own hat' (vx_isRefq hU'.1) (vx_isRefq hN'.1) hU'.2.word hN'.2.word
  have hown' : s'.vm.findClass own = some m.cls := by rw [hvm]; exact hown
  have hins : (Cond.instantiable cls 6).before args s' = true := h _ (by simp [ownN])
  obtain ⟨vm₁, cX, kX, hfX, hkX, -, -, X₁, st1⟩ := Y.newCold hexec (own := own) (C := cls) (index := ik) (n := 6) hown' hk' hins hini'
    (g := F0 m pc ls rest) rfl (by rw [hb]; exact d0) (Nat.le_refl _) (Nat.le_refl _)
  generalize hT1 : (T.setVm vm₁).pushCell { cls := cX, slots := kX.instanceTypes.map defaultValue, vm := .none } = T1 at X₁ st1
  have hcat : (Value.ref T.heap.size).category = 1 := rfl
  have hcellA : T1.heap[T.heap.size]? = some (freshCell cX kX) := by rw [← hT1]; exact State.heap_pushCell_size _ _
  have d3' : decode c.code (pc + 3) = .ok (.dup, 1) := by rw [hb]; exact d3
  have d4' : decode c.code (pc + 4) = .ok (.ldc is, 2) := by rw [hb]; exact d4
  have hstr' : vk_R own is text sa s' := vk_R.warm hW0 hstr
  obtain ⟨U, hsteps, hrun, hend, hW, hsame, ce, hce, hOc, hOv⟩ := own_throwN X₁ hexec htr x0 x1 x2 x5 (own := own) (cls := cls) (ic := ic) hown' hcls h (fun x hx => nomatch hx) hfX hkX hcellA (by rw [hhp, hT]; exact Nat.le_refl _) (msg := .ref sa) rfl
    (g := { method := m, pc := pc + 6, locals := ls, stack := .ref sa :: .ref T.heap.size :: .ref T.heap.size :: rest, locked := none }) rfl hsize rfl rfl (rest := rest) rfl
    (by rw [hb]; exact d6) (by rw [hb]; exact d9) hout hRframes (by simp only [List.map_cons, List.sum_cons, hcat]; omega) hlocks
  obtain ⟨f1, f2⟩ := vx_frame hsame
  rw [hhp] at f1 f2
  have hWs : s.WarmedH U.vm := State.WarmedH.trans hW0 hW
  have hcl : s.vm.findClass cls = some ce.cls := by
    have h9 := hOc
    rw [hvm] at h9
    exact h9
  have hall : s.sameButNew ({ U with vm := s.vm } : State) locs mc ms := by
    subst hA
    obtain ⟨e1, e2⟩ := hsame
    rw [State.setFrames_setFrames] at e1
    have h2 : (T.setVm s.vm).sameButNew ({ U with vm := s.vm } : State) [] (0 + 1) (0 + 6) := ⟨e1, e2⟩
    have h3 := X.same.trans h2
    rw [List.append_nil] at h3
    exact h3.mono hc hs
  refine ⟨U, ?_, .threw T.heap.size, hrun, hend, Or.inr ⟨T.heap.size, rfl, cls, ce, locs, hx U hWs.alike f1 (fun q hq => f2 q hq (fun z hz => nomatch hz)), hce, hOv, hcl, hWs, hall, hf⟩⟩
  refine st1 _ ?_
  show Steps p.tables e below (T1.setTop { method := m, pc := pc + 3, locals := ls, stack := .ref T.heap.size :: rest, locked := none }) _
  jvm_step X₁.here [X₁.here.top, hexec, d3', Value.category]
  exact X₁.ldcString hexec (own := own) (text := text) (index := is) (a := sa) hown' hstr'.1 hstr'.2
    (g := { method := m, pc := pc + 4, locals := ls, stack := .ref T.heap.size :: .ref T.heap.size :: rest, locked := none }) rfl d4' _ hsteps
theorem rN_0 : decode prog_26_method_4_code 0 = .ok (.aload_n 0, 1) := by decide +kernel
theorem rN_1 : decode prog_26_method_4_code 1 = .ok (.aload_n 1, 1) := by decide +kernel
theorem rN_2 : decode prog_26_method_4_code 2 = .ok (.invokespecial 13, 3) := by decide +kernel
theorem rN_5 : decode prog_26_method_4_code 5 = .ok (.return_, 1) := by decide +kernel
theorem hatN_4 : ∀ w ∈ (ownN "HostelBeds" 185 "java/util/NoSuchElementException" 13 prog_26_method_4_code).filter vx_no, w ∈ lw_g ∨ notG w = true := by
  have h1 : ∀ w ∈ (ownN "HostelBeds" 185 "java/util/NoSuchElementException" 13 prog_26_method_4_code).filter vx_no, goodWord w = true ∨ notG w = true := by decide +kernel
  have h2 : ∀ w ∈ ((ownN "HostelBeds" 185 "java/util/NoSuchElementException" 13 prog_26_method_4_code).filter vx_no).filter goodWord, w ∈ lw_tbl := by decide +kernel
  intro w hw
  rcases h1 w hw with h | h
  · exact Or.inl (lw_g_mk (h2 w (List.mem_filter.mpr ⟨hw, h⟩)) h)
  · exact Or.inr h
theorem hgoodN_4 : ∀ w ∈ (ownN "HostelBeds" 185 "java/util/NoSuchElementException" 13 prog_26_method_4_code).filter vx_no, vx_ot w = true := by decide +kernel
/-- the same of NoSuchElementException, whose constructor is another one's shape -/
def ThrowN2 (own : String) (cc : ByteArray) (pc : Nat) (k : Nat) : Prop := ∃ (ik is ic : Nat) (text : String), decode cc pc = .ok (.new ik, 3) ∧ decode cc (pc + 3) = .ok (.dup, 1) ∧ decode cc (pc + 4) = .ok (.ldc is, 2) ∧ decode cc (pc + 6) = .ok (.invokespecial ic, 3) ∧ decode cc (pc + 9) = .ok (.athrow, 1) ∧ Cond.classLink own ik (excN 4) ∈ lw_g ∧ Cond.initialized (excN 4) ∈ lw_g ∧ (own, is, text) ∈ strT ∧ (own, ic, k) = ("HostelBeds", 185, 4)
section XT
variable {p : Program} {l : Launch} {e : Env} {R : Room} {s : State} {m : MethodId} {args : Array Value} {below : List Frame} {meth : Method} {c : Code} {nL : Nat} {cy : Nat → ClassId} {D : va_G} {B : Nat} {ek : EK} {own : String} {cc : ByteArray} {cells slots : Nat} {Q : State → Prop} {pc : Nat} {lcs : List (Nat × Value)} {st : List Value} {σ μ ω : Mem}
theorem x_throwN2 (C : Cx p s m args c nL cy D B ek own cc) (hlf : l.stackTraces = false) {k mc ms : Nat} {Qc : Array Value → State → Outcome → State → Prop} (ht : ThrowN2 own cc pc k) (hout : ∀ x ∈ c.exceptionTable.toList, False) (hRf : 5 < R.frames) (hRl : (st.map fun v => v.category).sum + 82 ≤ R.locals) (hRc : cells + 1 ≤ R.cells) (hRs : slots + 6 ≤ R.slots) (hlocks : meth.locks = false) (hc : cells + 1 ≤ mc) (hs : slots + 6 ≤ ms) : X p l e R s m args below meth c nL cy D B cells slots (vx_MQ below Qc (XCX cy D B (.inr k) σ μ ω) args s mc ms (aB B)) pc lcs st σ μ ω := by
  obtain ⟨ik, is, ic, text, d0, d3, d4, d6, d9, hk, hini, hstr, he⟩ := ht
  obtain ⟨he1, he2⟩ := Prod.mk.inj he
  obtain ⟨he3, he4⟩ := Prod.mk.inj he2
  subst he1
  subst he3
  subst he4
  intro H locs ls hP hS hh
  have hE := C.2.2.2.2.2.2.2
  have hts := C.2.2.2.2.1
  obtain ⟨sa, hsa⟩ := hE.2.1 _ hstr
  have e4 : excN 4 = "java/util/NoSuchElementException" := rfl
  rw [e4] at hk hini
  have ho : ∀ w, w ∈ lw_g → vx_ot w = true := fun w hw => by
    have h1 : goodWord w = true := (List.mem_filter.mp hw).2
    unfold vx_ot
    rw [h1, Bool.or_true]
  refine vx_throwN (A := aB B) (ix := 13) (rx := prog_26_method_4_code) C.1 C.2.1 hlf rN_0 rN_1 rN_2 rN_5 C.2.2.2.1 (by decide +kernel) (hts _ hk) (hts _ hini) hsa (fun w hw => ?_) (fun w hw => ?_) hE.2.2.1 hE.2.2.2.1 hS (hh.1.trans C.2.2.1.symm) d0 d3 d4 d6 d9 (fun x hx => (hout x hx).elim) hRf hRl hRc hRs hlocks (fun t hvm hz hq => ⟨4, rfl, rfl, va_P_kept hP hz hq, Nat.le_trans hS.1 hz, fun q h1 h2 => by rw [hq q (Nat.lt_of_lt_of_le h1 hS.1)]; exact hS.2.1 q h1 h2⟩) hS.2.2 hc hs
  · rcases hatN_4 w hw with h | h
    · exact hts w h
    · exact va_Nw.use (notG_tab h) (hE.1 w h)
  · rcases List.mem_cons.mp hw with rfl | hw
    · exact ho _ hk
    · rcases List.mem_cons.mp hw with rfl | hw
      · exact ho _ hini
      · exact hgoodN_4 w hw
end XT
