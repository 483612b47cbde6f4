/-! rows for the text that the law writes (written by wip/p47gen/xs.py) -/
abbrev cSB (a aV : Nat) (cn : Int32) : Nat × va_E := (a, .inr (1, [.ref aV, .int 0, .int 0, .int cn]))
abbrev cBy (cy : Nat → ClassId) (a n : Nat) (f : Nat → Int32) : Nat × va_E := (a, .inl (cy 2, n, .inl f))
abbrev cNS (a : Nat) (v : Value) : Nat × va_E := (a, .inr (0, [v, .int 0, .int 0, .int 0]))
abbrev cS0 (a : Nat) (v : Value) : Nat × va_E := (a, .inr (1, [v, .int 0, .int 0, .int 0]))
abbrev cKs (cy : Nat → ClassId) (a : Nat) (f : Nat → Option Nat) : Nat × va_E := (a, .inl (cy 10, 3, .inr (.inr (.inr (.inr f)))))
theorem sel_priv {y : MethodName} {s : State} {args : Array Value} (hsel : (Cond.selects "java/lang/StringBuilder" ⟨"java/lang/AbstractStringBuilder", "isLatin1", "()Z"⟩ ⟨"java/lang/AbstractStringBuilder", "isLatin1", "()Z"⟩).before args s = true) (hy : y.cls = "java/lang/AbstractStringBuilder") (hpriv : (Cond.privateMethod y).before args s = true) (hinst : (Cond.instanceMethod y).before args s = true) :
    (Cond.selects "java/lang/StringBuilder" y y).before args s = true := by
  obtain ⟨c2, r2, m2, q1, q2, q3, q4, q5⟩ := Cond.selects_spec hsel
  obtain ⟨mk, methM, hnamed, hmethM, -, -⟩ := Cond.instanceMethod_spec hinst
  have hfound : s.methodFound? y.cls y.name y.desc = some mk := State.methodFound?_of_named hnamed (by rw [hy]; decide)
  have hcls : mk.cls = m2.cls := Option.some.inj ((findClass_of_methodNamed hnamed).symm.trans ((by rw [hy]; exact findClass_of_methodNamed q3)))
  have hs : selectMethod {} s.vm c2 mk = .method mk := selectMethod_private hmethM (Cond.privateMethod_at hpriv mk methM hnamed hmethM)
  simp only [Cond.before, Cond.holds, Cond.value, q1, hfound, hnamed, hs]
  obtain ⟨mk9, hk9, hi9⟩ := q5
  simp [hcls, hk9, hi9]
theorem hselP {p : Program} {s : State} {m : MethodId} {args : Array Value} {c : Code} {nL : Nat} {cy : Nat → ClassId} {D : va_G} {B : Nat} {ek : EK} {own : String} {cc : ByteArray} (C : Cx p s m args c nL cy D B ek own cc) {y : MethodName} (hy : y ∈ privL) : (Cond.selects "java/lang/StringBuilder" y y).before args s = true := va_Nw.use rfl (C.2.2.2.2.2.2.2.2.2.2.2.2.2.2.2.2.2.2.2.2.2.2.2.2 y hy)
section XSB
variable {p : Program} {l : Launch} {e : Env} {R : Room} {s : State} {m : MethodId} {args : Array Value} {below : List Frame} {meth : Method} {c : Code} {nL : Nat} {cy : Nat → ClassId} {D : va_G} {B : Nat} {ek : EK} {own : String} {cc : ByteArray} {cells slots : Nat} {Q : State → Prop} {pc : Nat} {lcs : List (Nat × Value)} {st : List Value} {ad : Nat} {σ : Mem} {Y : va_W}
theorem x_nul (C : Cx p s m args c nL cy D B ek own cc) (hdg : decode cc pc = .ok (.aconst_null, 1)) (kk : X p l e R s m args below meth c nL cy D B cells slots Q (pc + 1) lcs (.null :: st) σ Y) : X p l e R s m args below meth c nL cy D B cells slots Q pc lcs st σ Y :=
  fun H locs ls hP hS hh => lv_null C.1 C.2.1 hdg (kk H locs ls hP hS hh)
theorem x_dup_x1 (C : Cx p s m args c nL cy D B ek own cc) {va vb : Value} (hdg : decode cc pc = .ok (.dup_x1, 1)) (hva : va.category = 1) (hvb : vb.category = 1) (kk : X p l e R s m args below meth c nL cy D B cells slots Q (pc + 1) lcs (va :: vb :: va :: st) σ Y) : X p l e R s m args below meth c nL cy D B cells slots Q pc lcs (va :: vb :: st) σ Y :=
  fun H locs ls hP hS hh => lv_dup_x1 C.1 C.2.1 hdg hva hvb (kk H locs ls hP hS hh)
theorem x_ifnonnull (C : Cx p s m args c nL cy D B ek own cc) {x : Nat} {off : Int} {tgt : Nat} (hdg : decode cc pc = .ok (.ifnonnull off, 3)) (ht : (pc : Int) + off = (tgt : Int)) (kk : X p l e R s m args below meth c nL cy D B cells slots Q tgt lcs st σ Y) : X p l e R s m args below meth c nL cy D B cells slots Q pc lcs (.ref x :: st) σ Y :=
  fun H locs ls hP hS hh => lv_ifnonnull C.1 C.2.1 hdg ht (kk H locs ls hP hS hh)
theorem x_obj (C : Cx p s m args c nL cy D B ek own cc) {idx : Nat} {a : Nat} (hlink : Cond.methodLink own idx Lib.objectInit ∈ lw_g) (hinst : Cond.instanceMethod Lib.objectInit ∈ lw_g) (hcode : Cond.code Lib.objectInit ⟨#[0xb1]⟩ 1 none ∈ lw_g) (hfr : 1 ≤ R.frames) (hlo : (st.map fun v => v.category).sum + 12 ≤ R.locals) (hdg : decode cc pc = .ok (.invokespecial idx, 3)) (kk : X p l e R s m args below meth c nL cy D B cells slots Q (pc + 3) lcs st σ Y) : X p l e R s m args below meth c nL cy D B cells slots Q pc lcs (.ref a :: st) σ Y := by
  intro H locs ls hP hS hh
  have hts := C.2.2.2.2.1
  refine W.objInit C.1 C.2.1 C.2.2.2.1 (hts _ hlink) (hts _ hinst) (hts _ hcode) rfl (by rw [C.2.2.1]; exact hh.1) rfl hdg hfr (by simpa [JFrame.monitorRoom, F0] using hlo) ?_
  exact W.eq (g2 := F0 m (pc + 3) ls st) rfl (kk H locs ls hP hS hh)
theorem x_digO (C : Cx p s m args c nL cy D B ek own cc) {index : Nat} (hlink : Cond.fieldLink own index "java/lang/Integer" "DigitOnes" "[B" ∈ lw_g) (hdg : decode cc pc = .ok (.getstatic index, 3)) (kk : X p l e R s m args below meth c nL cy D B cells slots Q (pc + 3) lcs (.ref (dgO ek) :: st) σ Y) : X p l e R s m args below meth c nL cy D B cells slots Q pc lcs st σ Y :=
  fun H locs ls hP hS hh => va_gets C.1 C.2.1 C.2.2.2.2.2.2.2.2.2.2.2.2.2.2.2.2.2.2.2.2.2.2.1.1 hS C.2.2.2.1 (C.2.2.2.2.1 _ hlink) (fun _ h => h) hdg (kk H locs ls hP hS hh)
theorem x_digOb (C : Cx p s m args c nL cy D B ek own cc) {x : Int32} (hin : vp_in x 100) (hdg : decode cc pc = .ok (.baload, 1)) (kk : X p l e R s m args below meth c nL cy D B cells slots Q (pc + 1) lcs (.int (Int32.ofNat (48 + x.toNatClampNeg % 10)) :: st) σ Y) : X p l e R s m args below meth c nL cy D B cells slots Q pc lcs (.int x :: .ref (dgO ek) :: st) σ Y :=
  fun H locs ls hP hS hh => va_tb C.1 C.2.1 C.2.2.2.2.2.2.2.2.2.2.2.2.2.2.2.2.2.2.2.2.2.2.1.2 hS hin rfl hdg (kk H locs ls hP hS hh)
theorem x_digT (C : Cx p s m args c nL cy D B ek own cc) {index : Nat} (hlink : Cond.fieldLink own index "java/lang/Integer" "DigitTens" "[B" ∈ lw_g) (hdg : decode cc pc = .ok (.getstatic index, 3)) (kk : X p l e R s m args below meth c nL cy D B cells slots Q (pc + 3) lcs (.ref (dgT ek) :: st) σ Y) : X p l e R s m args below meth c nL cy D B cells slots Q pc lcs st σ Y :=
  fun H locs ls hP hS hh => va_gets C.1 C.2.1 C.2.2.2.2.2.2.2.2.2.2.2.2.2.2.2.2.2.2.2.2.2.2.2.1.1 hS C.2.2.2.1 (C.2.2.2.2.1 _ hlink) (fun _ h => h) hdg (kk H locs ls hP hS hh)
theorem x_digTb (C : Cx p s m args c nL cy D B ek own cc) {x : Int32} (hin : vp_in x 100) (hdg : decode cc pc = .ok (.baload, 1)) (kk : X p l e R s m args below meth c nL cy D B cells slots Q (pc + 1) lcs (.int (Int32.ofNat (48 + x.toNatClampNeg / 10)) :: st) σ Y) : X p l e R s m args below meth c nL cy D B cells slots Q pc lcs (.int x :: .ref (dgT ek) :: st) σ Y :=
  fun H locs ls hP hS hh => va_tb C.1 C.2.1 C.2.2.2.2.2.2.2.2.2.2.2.2.2.2.2.2.2.2.2.2.2.2.2.1.2 hS hin rfl hdg (kk H locs ls hP hS hh)
theorem x_new (C : Cx p s m args c nL cy D B ek own cc) {C1 : String} {T : u_T} {N ci index : Nat} (hin : ∀ w ∈ u_ws C1 T N, w ∈ lw_g) (ty : Nat → FieldType) (hty : ∀ k, k < N → parseFieldDescriptor (T k).2.2.1 = some (ty k)) (hcl : Cond.classLink own index C1 ∈ lw_g) (hinst : Cond.instantiable C1 N ∈ lw_g) (hini : Cond.initialized C1 ∈ lw_g) (hc : vwCl[ci]? = some (C1, T, N)) {fs : List Value} (hfs : ∀ j, j < N → defaultValue (ty j) = vp_V fs j) (hcells : cells + 1 ≤ R.cells) (hslots : slots + N ≤ R.slots) (hdg : decode cc pc = .ok (.new index, 3)) (kk : ∀ a : Nat, X p l e R s m args below meth c nL cy D B (cells + 1) (slots + N) Q (pc + 3) lcs (.ref a :: st) σ (Y ++ [(a, .inr (ci, fs))])) : X p l e R s m args below meth c nL cy D B cells slots Q pc lcs st σ Y := by
  intro H locs ls hP hS hh
  refine va_new C.1 C.2.1 C.2.2.2.2.1 hin ty hty C.2.2.2.1 (C.2.2.2.2.1 _ hcl) (C.2.2.2.2.1 _ hinst) (C.2.2.2.2.1 _ hini) C.2.2.2.2.2.1 hP.1 hP.2 hS (fun q hq => Nat.le_trans C.2.2.2.2.2.2.1 hq) hc hfs hcells hslots hdg (fun q H1 hP1 hD1 hS1 => ?_)
  have ew : wl cy B σ Y ++ [(q, Sum.inr (ci, fs))] = wl cy B σ (Y ++ [(q, Sum.inr (ci, fs))]) := by unfold wl; rw [List.append_assoc]
  rw [ew] at hP1 hD1
  exact kk q H1 locs ls ⟨hP1, hD1⟩ hS1 hh
theorem x_newBv (C : Cx p s m args c nL cy D B ek own cc) (harr : Cond.arrayClass (.byte) ∈ lw_g) {n : Int32} (hn : ¬ n < 0) (hz : n.toNatClampNeg ≤ 2000) (hcells : cells + 1 ≤ R.cells) (hslots : slots + 2000 ≤ R.slots) (hdg : decode cc pc = .ok (.newarray .byte, 2)) (kk : ∀ a : Nat, X p l e R s m args below meth c nL cy D B (cells + 1) (slots + 2000) Q (pc + 2) lcs (.ref a :: st) σ (Y ++ [(a, .inl (cy 2, n.toNatClampNeg, .inl (fun _ => 0)))])) : X p l e R s m args below meth c nL cy D B cells slots Q pc lcs (.int n :: st) σ Y := by
  refine x_newB C harr (z := n.toNatClampNeg) hn rfl (by omega) hcells (by omega) hdg (fun a => ?_)
  exact x_widen (Nat.le_refl _) (by omega) (kk a)
theorem x_newS (C : Cx p s m args c nL cy D B ek own cc) {index : Nat} (hcl : Cond.classLink own index "java/lang/String" ∈ lw_g) (hcells : cells + 1 ≤ R.cells) (hslots : slots + 3 ≤ R.slots) (hdg : decode cc pc = .ok (.anewarray index, 3)) (kk : ∀ a : Nat, X p l e R s m args below meth c nL cy D B (cells + 1) (slots + 3) Q (pc + 3) lcs (.ref a :: st) σ (Y ++ [cKs cy a (fun _ => none)])) : X p l e R s m args below meth c nL cy D B cells slots Q pc lcs (.int 3 :: st) σ Y := by
  intro H locs ls hP hS hh
  refine va_newq (N' := 3) C.1 C.2.1 C.2.2.2.1 (C.2.2.2.2.1 _ hcl) C.2.2.2.2.2.2.2.2.2.2.2.2.2.2.2.2.2.2.2.2.2.1 C.2.2.2.2.2.1 hP.1 hP.2 hS (fun q hq => Nat.le_trans C.2.2.2.2.2.2.1 hq) (by decide) (by decide) (by decide) hcells hslots hdg (fun q cA H1 hK hP1 hD1 hS1 => ?_)
  have e : cA = cy 10 := by
    have h1 := (hK.2 (tysL cy).length _ (by rw [List.getElem?_append_right (Nat.le_refl _), Nat.sub_self]; rfl)).2
    have h2 := (C.2.2.2.2.2.1.2 10 _ rfl).2
    obtain ⟨_, _, _, _, _, h3⟩ := h1
    obtain ⟨_, _, _, _, _, h4⟩ := h2
    exact Option.some.inj (h3.symm.trans h4)
  subst e
  have ew : ∀ z : Nat × va_E, wl cy B σ Y ++ [z] = wl cy B σ (Y ++ [z]) := by intro z; unfold wl; rw [List.append_assoc]
  rw [ew] at hP1 hD1
  exact kk q H1 locs ls ⟨hP1, hD1⟩ hS1 hh
theorem x_astS (C : Cx p s m args c nL cy D B ek own cc) (o : Nat) {n i9 : Nat} {f : Nat → Option Nat} (hi : i9 < 18) (ha : (wl cy B σ Y)[o]? = some (ad, .inl (cy 10, n, .inr (.inr (.inr (.inr f)))))) {i : Int32} (hin : vp_in i n) (hdg : decode cc pc = .ok (.aastore, 1)) {σ' : Mem} {Y' : va_W} (hs : (wl cy B σ Y).set o (ad, .inl (cy 10, n, .inr (.inr (.inr (.inr (va_up f i.toNatClampNeg (some (ek.1 i9)))))))) = wl cy B σ' Y') (kk : X p l e R s m args below meth c nL cy D B cells slots Q (pc + 1) lcs st σ' Y') : X p l e R s m args below meth c nL cy D B cells slots Q pc lcs (.ref (ek.1 i9) :: .int i :: .ref ad :: st) σ Y := by
  intro H locs ls hP hS hh
  have hr : va_Any "java/lang/String" s H (ek.1 i9) := by
    obtain ⟨cell, h1, h2, h3, -⟩ := (C.2.2.2.2.2.2.2.2.2.2.2.2.1.1 i9 hi).1.kept hS.2.1
    obtain ⟨kC, hk, -⟩ := Vm.findClass_spec h3
    refine ⟨cell, h1, h2, ⟨kC, hk⟩, fun comp hc => ?_⟩
    cases Option.some.inj (h3.symm.trans hc)
    exact va_asg _ _
  exact va_astqM C.1 C.2.1 C.2.2.2.2.2.1 hP.1 hP.2 hS o 10 ha rfl hr hin hdg (fun H1 locs1 hP1 hD1 hS1 => kk H1 locs1 ls (PW_of hs hP1 hD1) hS1 hh)
theorem x_copyB (C : Cx p s m args c nL cy D B ek own cc) {index : Nat} (hlink : Cond.methodLink own index arraycopyName ∈ lw_g) (hnat : Cond.native arraycopyName ∈ lw_g) (hstat : Cond.static arraycopyName ∈ lw_g) (hini : Cond.initialized "java/lang/System" ∈ lw_g) (o0 o1 : Nat) {a0 n0 n1 : Nat} {f g : Nat → Int32} (ha0 : (wl cy B σ Y)[o0]? = some (a0, .inl (cy 2, n0, .inl f))) (ha1 : (wl cy B σ Y)[o1]? = some (ad, .inl (cy 2, n1, .inl g))) {sp dp n : Int32} (h1 : ¬ sp < 0) (h2 : ¬ dp < 0) (h3 : ¬ n < 0) (h4 : sp.toNatClampNeg + n.toNatClampNeg ≤ n0) (h5 : dp.toNatClampNeg + n.toNatClampNeg ≤ n1) (hfit : ∀ i : Nat, i < n.toNatClampNeg → fits .byte (.int (f (sp.toNatClampNeg + i))) = true) (hfr : 1 ≤ R.frames) (hlo : (st.map fun v => v.category).sum + (nativeFrameWords "java/lang/System" "arraycopy" 5 + 11) ≤ R.locals) (hdg : decode cc pc = .ok (.invokestatic index, 3)) {σ' : Mem} {Y' : va_W} (hs : (wl cy B σ Y).set o1 (ad, .inl (cy 2, n1, .inl (va_cpy f g sp.toNatClampNeg dp.toNatClampNeg n.toNatClampNeg))) = wl cy B σ' Y') (kk : X p l e R s m args below meth c nL cy D B cells slots Q (pc + 3) lcs st σ' Y') : X p l e R s m args below meth c nL cy D B cells slots Q pc lcs (.int n :: .int dp :: .ref ad :: .int sp :: .ref a0 :: st) σ Y :=
  fun H locs ls hP hS hh => va_copyi C.1 C.2.1 (C.2.2.1.trans hh.1.symm) C.2.2.2.1 (C.2.2.2.2.1 _ hlink) (C.2.2.2.2.1 _ hnat) (C.2.2.2.2.1 _ hstat) (C.2.2.2.2.1 _ hini) C.2.2.2.2.2.1 hP.1 hP.2 hS o0 o1 2 2 ha0 ha1 rfl rfl rfl h1 h2 h3 h4 h5 hfit hfr hlo hdg (fun H1 locs1 hP1 hD1 hS1 => kk H1 locs1 ls (PW_of hs hP1 hD1) hS1 hh)
theorem fit_txt : ∀ i, i < 18 → ∀ j, j < lenI.getD i 0 → fits .byte (.int ((bytI.getD i []).getD j 0)) = true := by decide +kernel
theorem x_copyS (C : Cx p s m args c nL cy D B ek own cc) {index : Nat} (hlink : Cond.methodLink own index arraycopyName ∈ lw_g) (hnat : Cond.native arraycopyName ∈ lw_g) (hstat : Cond.static arraycopyName ∈ lw_g) (hini : Cond.initialized "java/lang/System" ∈ lw_g) (o1 : Nat) {i9 n1 : Nat} {g : Nat → Int32} (hi : i9 < 18) (ha1 : (wl cy B σ Y)[o1]? = some (ad, .inl (cy 2, n1, .inl g))) {sp dp n : Int32} (hsp : sp = 0) (h2 : ¬ dp < 0) (h3 : ¬ n < 0) (h4 : n.toNatClampNeg ≤ lenI.getD i9 0) (h5 : dp.toNatClampNeg + n.toNatClampNeg ≤ n1) (hfr : 1 ≤ R.frames) (hlo : (st.map fun v => v.category).sum + (nativeFrameWords "java/lang/System" "arraycopy" 5 + 11) ≤ R.locals) (hdg : decode cc pc = .ok (.invokestatic index, 3)) {σ' : Mem} {Y' : va_W} (hs : (wl cy B σ Y).set o1 (ad, .inl (cy 2, n1, .inl (va_cpy (fun j => (bytI.getD i9 []).getD j 0) g 0 dp.toNatClampNeg n.toNatClampNeg))) = wl cy B σ' Y') (kk : X p l e R s m args below meth c nL cy D B cells slots Q (pc + 3) lcs st σ' Y') : X p l e R s m args below meth c nL cy D B cells slots Q pc lcs (.int n :: .int dp :: .ref ad :: .int sp :: .ref (ek.2.1 i9) :: st) σ Y := by
  subst hsp
  have e0 : (0 : Int32).toNatClampNeg = 0 := rfl
  exact fun H locs ls hP hS hh => vk_copyt (f := fun j => (bytI.getD i9 []).getD j 0) C.1 C.2.1 (C.2.2.1.trans hh.1.symm) C.2.2.2.1 (C.2.2.2.2.1 _ hlink) (C.2.2.2.2.1 _ hnat) (C.2.2.2.2.1 _ hstat) (C.2.2.2.2.1 _ hini) C.2.2.2.2.2.1 hP.1 hP.2 hS (C.2.2.2.2.2.2.2.2.2.2.2.2.1.1 i9 hi).2.2.2 o1 2 ha1 rfl (by decide) h2 h3 (by rw [e0]; omega) h5 (fun i hi2 => by rw [e0, Nat.zero_add]; exact fit_txt i9 hi i (by omega)) hfr hlo hdg (fun H1 locs1 hP1 hD1 hS1 => kk H1 locs1 ls (PW_of hs hP1 hD1) hS1 hh)
theorem x_clone (C : Cx p s m args c nL cy D B ek own cc) {i1 i2 : Nat} (hlink : Cond.methodLink own i1 ⟨"[B", "clone", "()Ljava/lang/Object;"⟩ ∈ lw_g) (hsame : Cond.sameMethod "[B" "java/lang/Object" "clone" "()Ljava/lang/Object;" ∈ lw_g) (hnat : Cond.native ⟨"java/lang/Object", "clone", "()Ljava/lang/Object;"⟩ ∈ lw_g) (hinst : Cond.instanceMethod ⟨"java/lang/Object", "clone", "()Ljava/lang/Object;"⟩ ∈ lw_g) (hsel : Cond.selects "[B" ⟨"[B", "clone", "()Ljava/lang/Object;"⟩ ⟨"java/lang/Object", "clone", "()Ljava/lang/Object;"⟩ ∈ lw_g) (hcl2 : Cond.classLink own i2 "[B" ∈ lw_g) (o : Nat) {n : Nat} {f : Nat → Int32} (ha : (wl cy B σ Y)[o]? = some (ad, .inl (cy 2, n, .inl f))) (hfit : ∀ i : Nat, i < n → fits .byte (.int (f i)) = true) (hn : n ≤ 2000) (hfr : 1 ≤ R.frames) (hlo : (st.map fun v => v.category).sum + 14 ≤ R.locals) (hcells : cells + 1 ≤ R.cells) (hslots : slots + 2000 ≤ R.slots) (hdg : decode cc pc = .ok (.invokevirtual i1, 3)) (hd2 : decode cc (pc + 3) = .ok (.checkcast i2, 3)) (kk : ∀ a : Nat, X p l e R s m args below meth c nL cy D B (cells + 1) (slots + 2000) Q (pc + 6) lcs (.ref a :: st) σ (Y ++ [cBy cy a n f])) : X p l e R s m args below meth c nL cy D B cells slots Q pc lcs (.ref ad :: st) σ Y := by
  intro H locs ls hP hS hh
  have hnm : s.vm.findClass "[B" = some (cy 2) := (C.2.2.2.2.2.1.2 2 _ rfl).2
  refine va_clone (ty := .byte) C.1 C.2.1 (C.2.2.1.trans hh.1.symm) C.2.2.2.1 (C.2.2.2.2.1 _ hlink) (C.2.2.2.2.1 _ hsame) (C.2.2.2.2.1 _ hnat) (C.2.2.2.2.1 _ hinst) (C.2.2.2.2.1 _ hsel) (C.2.2.2.2.2.2.2.1 _ rfl) C.2.2.2.2.2.1 hP.1 hP.2 hS (fun q hq => Nat.le_trans C.2.2.2.2.2.2.1 hq) o 2 ha rfl hnm (fun i v hv => ?_) hfr hlo hcells (by show slots + n ≤ _; omega) hdg (fun q H1 hK1 hP1 hD1 hS1 => ?_)
  · have hi : i < n := by
      have := (Array.getElem?_eq_some_iff.mp hv).1
      rw [vp_cell_i, arrV_size] at this
      exact this
    rw [vp_cell_i] at hv
    rw [show (arrV (cy 2) n fun j => Value.int (f j)).slots[i]? = some (.int (f i)) from arrV_read _ _ hi] at hv
    cases hv
    exact hfit i hi
  · have ew : ∀ z : Nat × va_E, wl cy B σ Y ++ [z] = wl cy B σ (Y ++ [z]) := by intro z; unfold wl; rw [List.append_assoc]
    have hq : (wl cy B σ Y ++ [(q, Sum.inl (cy 2, n, Sum.inl f))])[(wl cy B σ Y).length]? = some (q, .inl (cy 2, n, .inl f)) := by rw [List.getElem?_append_right (Nat.le_refl _), Nat.sub_self]; rfl
    refine va_castA C.1 C.2.1 C.2.2.2.1 (C.2.2.2.2.1 _ hcl2) hP1 _ hq hnm hd2 ?_
    rw [ew] at hP1 hD1
    exact W.widen (Nat.le_refl _) (by show slots + n ≤ _; omega) (kk q H1 locs ls ⟨hP1, hD1⟩ hS1 hh)
theorem x_putF (C : Cx p s m args c nL cy D B ek own cc) {C1 : String} {T : u_T} {N ci index : Nat} (hin : ∀ w ∈ u_ws C1 T N, w ∈ lw_g) (ty0 : Nat → FieldType) (hty : ∀ k, k < N → parseFieldDescriptor (T k).2.2.1 = some (ty0 k)) (hnm : ∀ a, a < N → ∀ b, b < N → a ≠ b → (T a).2.1 ≠ (T b).2.1) (o : Nat) {fs : List Value} (he : (wl cy B σ Y)[o]? = some (ad, .inr (ci, fs))) (hc : vwCl[ci]? = some (C1, T, N)) (k : Nat) (hk : k < N) (hlink : Cond.fieldLink own index (T k).1 (T k).2.1 (T k).2.2.1 ∈ lw_g) (hfin : (T k).2.2.2 = true) (hin2 : meth.name = "<init>") (hdecl : (T k).1 = own) {ty : FieldType} {v : Value} (hd : parseFieldDescriptor (T k).2.2.1 = some ty) (hn : narrow ty v = v) (hfit : fits ty v = true) (hl : k < fs.length) (hdg : decode cc pc = .ok (.putfield index, 3)) {σ' : Mem} {Y' : va_W} (hs : (wl cy B σ Y).set o (ad, .inr (ci, fs.set k v)) = wl cy B σ' Y') (kk : X p l e R s m args below meth c nL cy D B cells slots Q (pc + 3) lcs st σ' Y') : X p l e R s m args below meth c nL cy D B cells slots Q pc lcs (v :: .ref ad :: st) σ Y :=
  fun H locs ls hP hS hh => va_putF C.1 C.2.1 C.2.2.2.2.1 hin ty0 hty hnm C.2.2.2.1 C.2.2.2.2.2.1 hP.1 hP.2 hS o he hc k hk (C.2.2.2.2.1 _ hlink) (fun _ h => h) hfin hin2 hdecl hd hn hfit hl hdg (fun H1 locs1 hP1 hD1 hS1 => kk H1 locs1 ls (PW_of hs hP1 hD1) hS1 hh)
theorem x_callUE (C : Cx p s m args c nL cy D B ek own cc) {y : MethodName} {bytes : ByteArray} {maxL index : Nat} {ret : Option FieldType} {rm : Room} {As rest : List Value} {mc ms : Nat} {P : Option Value → Mem → va_W → Prop} {C1 : String} {T : u_T} {N ci : Nat} {o : Nat} {fs : List Value} (hinst : Cond.instanceMethod y ∈ lw_g) (hsame : Cond.sameMethod y.cls y.cls y.name y.desc ∈ lw_g) (hsel : (Cond.selects C1 y y).before args s = true) (he : (wl cy B σ Y)[o]? = some (ad, .inr (ci, fs))) (hc : vwCl[ci]? = some (C1, T, N)) (hM : CTE l cy D B ek y bytes maxL ret rm mc ms (.ref ad :: As) σ Y P) (hrc : rm.cells = mc) (hrs : rm.slots = ms) (hR : rm.frames + 1 ≤ R.frames ∧ 8 + (maxL + 11) + rm.locals ≤ R.locals) (hcode : Cond.code y bytes maxL ret ∈ lw_g) (hini : Cond.initialized y.cls ∈ lw_g) (hy : y.cls ≠ "java/lang/invoke/MethodHandle" ∧ y.cls ≠ "java/lang/invoke/VarHandle") (hlen : (parseMethodDescriptor y.desc).map (fun d => d.parameters.length) = some As.length) (hlink : Cond.methodLink own index y ∈ lw_g) (hstk : st = As.reverse ++ .ref ad :: rest) (hW : (rest.map fun v => v.category).sum ≤ 8) (hdg : decode cc pc = .ok (.invokevirtual index, 3)) (hcs : cells + mc ≤ R.cells ∧ slots + ms ≤ R.slots) (kk : ∀ v σ' Y', P v σ' Y' → X p l e R s m args below meth c nL cy D B (cells + mc) (slots + ms) Q (pc + 3) lcs (v.toList ++ rest) σ' Y') : X p l e R s m args below meth c nL cy D B cells slots Q pc lcs st σ Y := by
  intro H locs ls hP hS hh T hT XS
  have hts := C.2.2.2.2.1
  have hK := C.2.2.2.2.2.1
  have hws : ∀ w ∈ wsA y bytes maxL ret, ∀ (a9 : Array Value) (U : State), s.WarmedH U.vm → w.before a9 U = true := by
    intro w hw a9 U hW9
    rcases List.mem_cons.mp hw with rfl | hw
    · exact word_at hW9 (good_of_word (lw_g_good _ hcode)) (hts _ hcode)
    · exact word_at hW9 (good_of_word (lw_g_good _ hw)) (hts _ hw)
  have hlen9 : ∀ sig, parseMethodDescriptor y.desc = some sig → As.length = sig.parameters.length := by
    intro sig h9
    rw [h9] at hlen
    exact (Option.some.inj hlen).symm
  have run := va_runU (x := y) (owner := y.cls) (e := e) (locs := locs) (meth := meth) (below := below) (g := F0 m pc ls st) (rest := rest) (As := As) ⟨C.1, C.2.1, C.2.2.1, C.2.2.2.1, hts⟩ hM (n := As.length) ⟨⟨hrc, hrs, hR.1, hR.2, hws, List.mem_cons_self⟩, hts _ hcode, hts _ hini, hy, hlen9, hts _ hlink, hts _ hsame, va_Decl.of (hts _ hinst) (hts _ hcode), hsel, hts _ hinst⟩ ⟨fun a U g mk q => by obtain ⟨q0, qP, qK, qS, qE⟩ := q; exact ⟨q0, qP, va_K.moved (u := U) (U := U.calling g mk a) (Vm.Alike.refl U.vm) qK, qS, qE.warm (U' := U.calling g mk a) (State.WarmedH.refl U) (Nat.le_refl _) (fun _ _ _ => rfl)⟩, va_recv hK hP.1 hc he, fun U hU hW9 => ⟨rfl, by rw [hU]; exact hP, va_K.moved hW9.alike hK, by rw [hU]; exact Nat.le_trans C.2.2.2.2.2.2.1 hS.1, by rw [hU]; exact C.2.2.2.2.2.2.2.warm hW9 hS.1 hS.2.1⟩⟩ rfl rfl hh.1 hstk (lv_room hW) hdg (cells := cells) (slots := slots) ⟨hcs.1, hcs.2⟩
  obtain ⟨v9, st0, t, T', L, h0, X', hL, e1, e2, ⟨v8, σ8, W8, hp, hv, hP', hF⟩, hg⟩ := run T hT XS
  cases hv
  obtain ⟨t2, a1, b1⟩ := kk v9 σ8 W8 hp T'.heap (locs ++ L) ls (by rw [e1]; exact hP') ⟨Nat.le_trans hS.1 (by rw [e1, ← h0]; exact hF.1), fun q h1 h2 => by rw [e1, hF.2 q (by rw [h0]; exact Nat.lt_of_lt_of_le h1 hS.1) h2, h0]; exact hS.2.1 q h1 h2, fun q hq => (List.mem_append.mp hq).elim (hS.2.2 q) (hL q)⟩ hh T' rfl X'
  exact ⟨t2, hg t2 a1, b1⟩
theorem x_callOE (C : Cx p s m args c nL cy D B ek own cc) {x y : MethodName} {bytes : ByteArray} {maxL index : Nat} {ret : Option FieldType} {rm : Room} {As rest : List Value} {mc ms : Nat} {P : Option Value → Mem → va_W → Prop} {C1 : String} {T : u_T} {N ci : Nat} {o : Nat} {fs : List Value} (hinst : Cond.instanceMethod y ∈ lw_g) {b0 : ByteArray} {m0 : Nat} {r0 : Option FieldType} (hinx : Cond.instanceMethod x ∈ lw_g) (hcox : Cond.code x b0 m0 r0 ∈ lw_g) (hsame : Cond.sameMethod x.cls x.cls x.name x.desc ∈ lw_g) (hsel : Cond.selects C1 x y ∈ lw_g) (he : (wl cy B σ Y)[o]? = some (ad, .inr (ci, fs))) (hc : vwCl[ci]? = some (C1, T, N)) (hM : CTE l cy D B ek y bytes maxL ret rm mc ms (.ref ad :: As) σ Y P) (hrc : rm.cells = mc) (hrs : rm.slots = ms) (hR : rm.frames + 1 ≤ R.frames ∧ 8 + (maxL + 11) + rm.locals ≤ R.locals) (hcode : Cond.code y bytes maxL ret ∈ lw_g) (hini : Cond.initialized y.cls ∈ lw_g) (hy : x.cls ≠ "java/lang/invoke/MethodHandle" ∧ x.cls ≠ "java/lang/invoke/VarHandle") (hlen : (parseMethodDescriptor x.desc).map (fun d => d.parameters.length) = some As.length) (hlink : Cond.methodLink own index x ∈ lw_g) (hstk : st = As.reverse ++ .ref ad :: rest) (hW : (rest.map fun v => v.category).sum ≤ 8) (hdg : decode cc pc = .ok (.invokevirtual index, 3)) (hcs : cells + mc ≤ R.cells ∧ slots + ms ≤ R.slots) (kk : ∀ v σ' Y', P v σ' Y' → X p l e R s m args below meth c nL cy D B (cells + mc) (slots + ms) Q (pc + 3) lcs (v.toList ++ rest) σ' Y') : X p l e R s m args below meth c nL cy D B cells slots Q pc lcs st σ Y := by
  intro H locs ls hP hS hh T hT XS
  have hts := C.2.2.2.2.1
  have hK := C.2.2.2.2.2.1
  have hws : ∀ w ∈ wsA y bytes maxL ret, ∀ (a9 : Array Value) (U : State), s.WarmedH U.vm → w.before a9 U = true := by
    intro w hw a9 U hW9
    rcases List.mem_cons.mp hw with rfl | hw
    · exact word_at hW9 (good_of_word (lw_g_good _ hcode)) (hts _ hcode)
    · exact word_at hW9 (good_of_word (lw_g_good _ hw)) (hts _ hw)
  have hlen9 : ∀ sig, parseMethodDescriptor x.desc = some sig → As.length = sig.parameters.length := by
    intro sig h9
    rw [h9] at hlen
    exact (Option.some.inj hlen).symm
  have run := va_runU (x := x) (owner := x.cls) (e := e) (locs := locs) (meth := meth) (below := below) (g := F0 m pc ls st) (rest := rest) (As := As) ⟨C.1, C.2.1, C.2.2.1, C.2.2.2.1, hts⟩ hM (n := As.length) ⟨⟨hrc, hrs, hR.1, hR.2, hws, List.mem_cons_self⟩, hts _ hcode, hts _ hini, hy, hlen9, hts _ hlink, hts _ hsame, va_Decl.of (hts _ hinx) (hts _ hcox), hts _ hsel, hts _ hinst⟩ ⟨fun a U g mk q => by obtain ⟨q0, qP, qK, qS, qE⟩ := q; exact ⟨q0, qP, va_K.moved (u := U) (U := U.calling g mk a) (Vm.Alike.refl U.vm) qK, qS, qE.warm (U' := U.calling g mk a) (State.WarmedH.refl U) (Nat.le_refl _) (fun _ _ _ => rfl)⟩, va_recv hK hP.1 hc he, fun U hU hW9 => ⟨rfl, by rw [hU]; exact hP, va_K.moved hW9.alike hK, by rw [hU]; exact Nat.le_trans C.2.2.2.2.2.2.1 hS.1, by rw [hU]; exact C.2.2.2.2.2.2.2.warm hW9 hS.1 hS.2.1⟩⟩ rfl rfl hh.1 hstk (lv_room hW) hdg (cells := cells) (slots := slots) ⟨hcs.1, hcs.2⟩
  obtain ⟨v9, st0, t, T', L, h0, X', hL, e1, e2, ⟨v8, σ8, W8, hp, hv, hP', hF⟩, hg⟩ := run T hT XS
  cases hv
  obtain ⟨t2, a1, b1⟩ := kk v9 σ8 W8 hp T'.heap (locs ++ L) ls (by rw [e1]; exact hP') ⟨Nat.le_trans hS.1 (by rw [e1, ← h0]; exact hF.1), fun q h1 h2 => by rw [e1, hF.2 q (by rw [h0]; exact Nat.lt_of_lt_of_le h1 hS.1) h2, h0]; exact hS.2.1 q h1 h2, fun q hq => (List.mem_append.mp hq).elim (hS.2.2 q) (hL q)⟩ hh T' rfl X'
  exact ⟨t2, hg t2 a1, b1⟩
theorem x_callPE (C : Cx p s m args c nL cy D B ek own cc) {y : MethodName} {bytes : ByteArray} {maxL index : Nat} {ret : Option FieldType} {rm : Room} {As rest : List Value} {mc ms : Nat} {P : Option Value → Mem → va_W → Prop} {C1 : String} {T : u_T} {N ci : Nat} {o : Nat} {fs : List Value} (hinst : Cond.instanceMethod y ∈ lw_g) (hsame : Cond.sameMethod y.cls y.cls y.name y.desc ∈ lw_g) (hsup : Cond.superclass own y.cls ∈ lw_g) (hnm : y.name ≠ "<init>") (he : (wl cy B σ Y)[o]? = some (ad, .inr (ci, fs))) (hc : vwCl[ci]? = some (C1, T, N)) (hM : CTE l cy D B ek y bytes maxL ret rm mc ms (.ref ad :: As) σ Y P) (hrc : rm.cells = mc) (hrs : rm.slots = ms) (hR : rm.frames + 1 ≤ R.frames ∧ 8 + (maxL + 11) + rm.locals ≤ R.locals) (hcode : Cond.code y bytes maxL ret ∈ lw_g) (hini : Cond.initialized y.cls ∈ lw_g) (hy : y.cls ≠ "java/lang/invoke/MethodHandle" ∧ y.cls ≠ "java/lang/invoke/VarHandle") (hlen : (parseMethodDescriptor y.desc).map (fun d => d.parameters.length) = some As.length) (hlink : Cond.methodLink own index y ∈ lw_g) (hstk : st = As.reverse ++ .ref ad :: rest) (hW : (rest.map fun v => v.category).sum ≤ 8) (hdg : decode cc pc = .ok (.invokespecial index, 3)) (hcs : cells + mc ≤ R.cells ∧ slots + ms ≤ R.slots) (kk : ∀ v σ' Y', P v σ' Y' → X p l e R s m args below meth c nL cy D B (cells + mc) (slots + ms) Q (pc + 3) lcs (v.toList ++ rest) σ' Y') : X p l e R s m args below meth c nL cy D B cells slots Q pc lcs st σ Y := by
  intro H locs ls hP hS hh T hT XS
  have hts := C.2.2.2.2.1
  have hK := C.2.2.2.2.2.1
  have hws : ∀ w ∈ wsA y bytes maxL ret, ∀ (a9 : Array Value) (U : State), s.WarmedH U.vm → w.before a9 U = true := by
    intro w hw a9 U hW9
    rcases List.mem_cons.mp hw with rfl | hw
    · exact word_at hW9 (good_of_word (lw_g_good _ hcode)) (hts _ hcode)
    · exact word_at hW9 (good_of_word (lw_g_good _ hw)) (hts _ hw)
  have hlen9 : ∀ sig, parseMethodDescriptor y.desc = some sig → As.length = sig.parameters.length := by
    intro sig h9
    rw [h9] at hlen
    exact (Option.some.inj hlen).symm
  have run := va_runSU (C := C1) (C.2.2.2.2.2.1.1 ci _ hc).2 (e := e) (locs := locs) (meth := meth) (below := below) (g := F0 m pc ls st) (rest := rest) (As := As) ⟨C.1, C.2.1, C.2.2.1, C.2.2.2.1, hts⟩ hM (n := As.length) ⟨⟨hrc, hrs, hR.1, hR.2, hws, List.mem_cons_self⟩, hts _ hlink, hts _ hsame, hts _ hsup, hts _ hinst, hts _ hini, hts _ hcode, hnm, hlen9⟩ ⟨fun a U g mk q => by obtain ⟨q0, qP, qK, qS, qE⟩ := q; exact ⟨q0, qP, va_K.moved (u := U) (U := U.calling g mk a) (Vm.Alike.refl U.vm) qK, qS, qE.warm (U' := U.calling g mk a) (State.WarmedH.refl U) (Nat.le_refl _) (fun _ _ _ => rfl)⟩, va_recv hK hP.1 hc he, fun U hU hW9 => ⟨rfl, by rw [hU]; exact hP, va_K.moved hW9.alike hK, by rw [hU]; exact Nat.le_trans C.2.2.2.2.2.2.1 hS.1, by rw [hU]; exact C.2.2.2.2.2.2.2.warm hW9 hS.1 hS.2.1⟩⟩ rfl rfl hh.1 hstk (lv_room hW) hdg (cells := cells) (slots := slots) ⟨hcs.1, hcs.2⟩
  obtain ⟨v9, st0, t, T', L, h0, X', hL, e1, e2, ⟨v8, σ8, W8, hp, hv, hP', hF⟩, hg⟩ := run T hT XS
  cases hv
  obtain ⟨t2, a1, b1⟩ := kk v9 σ8 W8 hp T'.heap (locs ++ L) ls (by rw [e1]; exact hP') ⟨Nat.le_trans hS.1 (by rw [e1, ← h0]; exact hF.1), fun q h1 h2 => by rw [e1, hF.2 q (by rw [h0]; exact Nat.lt_of_lt_of_le h1 hS.1) h2, h0]; exact hS.2.1 q h1 h2, fun q hq => (List.mem_append.mp hq).elim (hS.2.2 q) (hL q)⟩ hh T' rfl X'
  exact ⟨t2, hg t2 a1, b1⟩
theorem x_callIE (C : Cx p s m args c nL cy D B ek own cc) {y : MethodName} {bytes : ByteArray} {maxL index : Nat} {rm : Room} {As rest : List Value} {mc ms : Nat} {P : Option Value → Mem → va_W → Prop} (hinst : Cond.instanceMethod y ∈ lw_g) (hnm : y.name = "<init>") (hM : CTE l cy D B ek y bytes maxL none rm mc ms (.ref ad :: As) σ Y P) (hrc : rm.cells = mc) (hrs : rm.slots = ms) (hR : rm.frames + 1 ≤ R.frames ∧ 8 + (maxL + 11) + rm.locals ≤ R.locals) (hcode : Cond.code y bytes maxL none ∈ lw_g) (hini : Cond.initialized y.cls ∈ lw_g) (hy : y.cls ≠ "java/lang/invoke/MethodHandle" ∧ y.cls ≠ "java/lang/invoke/VarHandle") (hlen : (parseMethodDescriptor y.desc).map (fun d => d.parameters.length) = some As.length) (hlink : Cond.methodLink own index y ∈ lw_g) (hstk : st = As.reverse ++ .ref ad :: rest) (hW : (rest.map fun v => v.category).sum ≤ 8) (hdg : decode cc pc = .ok (.invokespecial index, 3)) (hcs : cells + mc ≤ R.cells ∧ slots + ms ≤ R.slots) (kk : ∀ v σ' Y', P v σ' Y' → X p l e R s m args below meth c nL cy D B (cells + mc) (slots + ms) Q (pc + 3) lcs (v.toList ++ rest) σ' Y') : X p l e R s m args below meth c nL cy D B cells slots Q pc lcs st σ Y := by
  intro H locs ls hP hS hh T hT XS
  have hts := C.2.2.2.2.1
  have hK := C.2.2.2.2.2.1
  have hws : ∀ w ∈ wsA y bytes maxL none, ∀ (a9 : Array Value) (U : State), s.WarmedH U.vm → w.before a9 U = true := by
    intro w hw a9 U hW9
    rcases List.mem_cons.mp hw with rfl | hw
    · exact word_at hW9 (good_of_word (lw_g_good _ hcode)) (hts _ hcode)
    · exact word_at hW9 (good_of_word (lw_g_good _ hw)) (hts _ hw)
  have hlen9 : ∀ sig, parseMethodDescriptor y.desc = some sig → As.length = sig.parameters.length := by
    intro sig h9
    rw [h9] at hlen
    exact (Option.some.inj hlen).symm
  have run := va_runI (e := e) (locs := locs) (meth := meth) (below := below) (g := F0 m pc ls st) (rest := rest) (As := As) ⟨C.1, C.2.1, C.2.2.1, C.2.2.2.1, hts⟩ hM (n := As.length) ⟨⟨hrc, hrs, hR.1, hR.2, hws, List.mem_cons_self, hts _ hcode, hts _ hini, hy, hlen9, hts _ hlink⟩, hnm, hts _ hinst⟩ ⟨fun a U g mk q => by obtain ⟨q0, qP, qK, qS, qE⟩ := q; exact ⟨q0, qP, va_K.moved (u := U) (U := U.calling g mk a) (Vm.Alike.refl U.vm) qK, qS, qE.warm (U' := U.calling g mk a) (State.WarmedH.refl U) (Nat.le_refl _) (fun _ _ _ => rfl)⟩, fun U hU hW9 => ⟨rfl, by rw [hU]; exact hP, va_K.moved hW9.alike hK, by rw [hU]; exact Nat.le_trans C.2.2.2.2.2.2.1 hS.1, by rw [hU]; exact C.2.2.2.2.2.2.2.warm hW9 hS.1 hS.2.1⟩⟩ rfl rfl hh.1 hstk (lv_room hW) hdg (cells := cells) (slots := slots) ⟨hcs.1, hcs.2⟩
  obtain ⟨v9, st0, t, T', L, h0, X', hL, e1, e2, ⟨v8, σ8, W8, hp, hv, hP', hF⟩, hg⟩ := run T hT XS
  cases hv
  obtain ⟨t2, a1, b1⟩ := kk v9 σ8 W8 hp T'.heap (locs ++ L) ls (by rw [e1]; exact hP') ⟨Nat.le_trans hS.1 (by rw [e1, ← h0]; exact hF.1), fun q h1 h2 => by rw [e1, hF.2 q (by rw [h0]; exact Nat.lt_of_lt_of_le h1 hS.1) h2, h0]; exact hS.2.1 q h1 h2, fun q hq => (List.mem_append.mp hq).elim (hS.2.2 q) (hL q)⟩ hh T' rfl X'
  exact ⟨t2, hg t2 a1, b1⟩
theorem x_callTE (C : Cx p s m args c nL cy D B ek own cc) {y : MethodName} {bytes : ByteArray} {maxL index : Nat} {ret : Option FieldType} {rm : Room} {As rest : List Value} {mc ms : Nat} {P : Option Value → Mem → va_W → Prop} {i : Nat} (hi : i < 18) (hinst : Cond.instanceMethod y ∈ lw_g) (hsel : Cond.selects "java/lang/String" y y ∈ lw_g) (hM : CTE l cy D B ek y bytes maxL ret rm mc ms (.ref (ek.1 i) :: As) σ Y P) (hrc : rm.cells = mc) (hrs : rm.slots = ms) (hR : rm.frames + 1 ≤ R.frames ∧ 8 + (maxL + 11) + rm.locals ≤ R.locals) (hcode : Cond.code y bytes maxL ret ∈ lw_g) (hini : Cond.initialized y.cls ∈ lw_g) (hy : y.cls ≠ "java/lang/invoke/MethodHandle" ∧ y.cls ≠ "java/lang/invoke/VarHandle") (hlen : (parseMethodDescriptor y.desc).map (fun d => d.parameters.length) = some As.length) (hlink : Cond.methodLink own index y ∈ lw_g) (hstk : st = As.reverse ++ .ref (ek.1 i) :: rest) (hW : (rest.map fun v => v.category).sum ≤ 8) (hdg : decode cc pc = .ok (.invokevirtual index, 3)) (hcs : cells + mc ≤ R.cells ∧ slots + ms ≤ R.slots) (kk : ∀ v σ' Y', P v σ' Y' → X p l e R s m args below meth c nL cy D B (cells + mc) (slots + ms) Q (pc + 3) lcs (v.toList ++ rest) σ' Y') : X p l e R s m args below meth c nL cy D B cells slots Q pc lcs st σ Y := by
  intro H locs ls hP hS hh T hT XS
  have hts := C.2.2.2.2.1
  have hK := C.2.2.2.2.2.1
  have hws : ∀ w ∈ wsA y bytes maxL ret, ∀ (a9 : Array Value) (U : State), s.WarmedH U.vm → w.before a9 U = true := by
    intro w hw a9 U hW9
    rcases List.mem_cons.mp hw with rfl | hw
    · exact word_at hW9 (good_of_word (lw_g_good _ hcode)) (hts _ hcode)
    · exact word_at hW9 (good_of_word (lw_g_good _ hw)) (hts _ hw)
  have hlen9 : ∀ sig, parseMethodDescriptor y.desc = some sig → As.length = sig.parameters.length := by
    intro sig h9
    rw [h9] at hlen
    exact (Option.some.inj hlen).symm
  have run := va_runV (e := e) (locs := locs) (meth := meth) (below := below) (g := F0 m pc ls st) (rest := rest) (As := As) ⟨C.1, C.2.1, C.2.2.1, C.2.2.2.1, hts⟩ hM (n := As.length) ⟨⟨hrc, hrs, hR.1, hR.2, hws, List.mem_cons_self, hts _ hcode, hts _ hini, hy, hlen9, hts _ hlink⟩, hts _ hinst, hts _ hsel⟩ ⟨fun a U g mk q => by obtain ⟨q0, qP, qK, qS, qE⟩ := q; exact ⟨q0, qP, va_K.moved (u := U) (U := U.calling g mk a) (Vm.Alike.refl U.vm) qK, qS, qE.warm (U' := U.calling g mk a) (State.WarmedH.refl U) (Nat.le_refl _) (fun _ _ _ => rfl)⟩, vk_recv C.2.2.2.2.2.2.2.2.2.2.2.2.1 hi hS, fun U hU hW9 => ⟨rfl, by rw [hU]; exact hP, va_K.moved hW9.alike hK, by rw [hU]; exact Nat.le_trans C.2.2.2.2.2.2.1 hS.1, by rw [hU]; exact C.2.2.2.2.2.2.2.warm hW9 hS.1 hS.2.1⟩⟩ rfl rfl hh.1 hstk (lv_room hW) hdg (cells := cells) (slots := slots) ⟨hcs.1, hcs.2⟩
  obtain ⟨v9, st0, t, T', L, h0, X', hL, e1, e2, ⟨v8, σ8, W8, hp, hv, hP', hF⟩, hg⟩ := run T hT XS
  cases hv
  obtain ⟨t2, a1, b1⟩ := kk v9 σ8 W8 hp T'.heap (locs ++ L) ls (by rw [e1]; exact hP') ⟨Nat.le_trans hS.1 (by rw [e1, ← h0]; exact hF.1), fun q h1 h2 => by rw [e1, hF.2 q (by rw [h0]; exact Nat.lt_of_lt_of_le h1 hS.1) h2, h0]; exact hS.2.1 q h1 h2, fun q hq => (List.mem_append.mp hq).elim (hS.2.2 q) (hL q)⟩ hh T' rfl X'
  exact ⟨t2, hg t2 a1, b1⟩
theorem pu_2 {α : Type} {W V : List α} {x y z : α} : (W ++ x :: y :: z :: V)[W.length + 2]? = some z := by rw [List.getElem?_append_right (by omega), Nat.add_sub_cancel_left]; rfl
theorem ps_2 {α : Type} {W V : List α} {x y z u : α} : (W ++ x :: y :: z :: V).set (W.length + 2) u = W ++ x :: y :: u :: V := by rw [List.set_append_right _ _ (by omega), Nat.add_sub_cancel_left]; rfl
theorem set_self {α : Type} {W : List α} {i : Nat} {q : α} (h : W[i]? = some q) : W.set i q = W := by
  apply List.ext_getElem?
  intro k
  by_cases hk : k = i
  · subst hk; rw [List.getElem?_set_self (List.getElem?_eq_some_iff.mp h).1, h]
  · rw [List.getElem?_set_ne (fun e => hk e.symm)]
theorem set_at {α : Type} {W : List α} {i : Nat} {q z : α} (h : W[i]? = some q) : (W.set i z)[i]? = some z := List.getElem?_set_self (List.getElem?_eq_some_iff.mp h).1
theorem x_cutm (x y z : Nat × va_E) (kk : X p l e R s m args below meth c nL cy D B cells slots Q pc lcs st σ (Y ++ [x, z])) : X p l e R s m args below meth c nL cy D B cells slots Q pc lcs st σ (Y ++ [x, y, z]) := by
  have h := x_cut1 (Y := Y ++ [x]) (σ := σ) y z (p := p) (l := l) (e := e) (R := R) (s := s) (m := m) (args := args) (below := below) (meth := meth) (c := c) (nL := nL) (cy := cy) (D := D) (B := B) (cells := cells) (slots := slots) (Q := Q) (pc := pc) (lcs := lcs) (st := st) (by rw [List.append_assoc]; exact kk)
  rw [List.append_assoc] at h
  exact h
theorem x_ldcW (C : Cx p s m args c nL cy D B ek "HostelBedsLaw" cc) {index i : Nat} {tx : String} (hs : (index, tx, i) ∈ strW) (hdg : decode cc pc = .ok (.ldc index, 2)) (kk : X p l e R s m args below meth c nL cy D B cells slots Q (pc + 2) lcs (.ref (ek.1 i) :: st) σ Y) : X p l e R s m args below meth c nL cy D B cells slots Q pc lcs st σ Y := by
  intro H locs ls hP hS hh T hT XT
  have hr0 := C.2.2.2.2.2.2.2.2.2.2.2.2.2.2.2.2.1 _ hs
  obtain ⟨t, a1, b1⟩ := kk H locs ls hP hS hh T hT XT
  exact ⟨t, XT.ldcString C.1 (own := "HostelBedsLaw") (text := tx) (index := index) (a := ek.1 i) C.2.2.2.1 hr0.1 hr0.2 (g := F0 m pc ls st) rfl (by rw [C.2.1]; exact hdg) _ a1, b1⟩
theorem x_keep (V1 V2 : va_W) (kk : X p l e R s m args below meth c nL cy D B cells slots Q pc lcs st σ (Y ++ V2)) : X p l e R s m args below meth c nL cy D B cells slots Q pc lcs st σ (Y ++ (V1 ++ V2)) := by
  intro H locs ls hP hS hh
  have hg : ∀ (k : Nat) (q : Nat × va_E), (wl cy B σ (Y ++ V2))[k]? = some q → (wl cy B σ (Y ++ (V1 ++ V2)))[(fun i => if i < 380 + Y.length then i else i + V1.length) k]? = some q := by
    intro k q hk
    unfold wl at hk ⊢
    rw [← List.append_assoc] at hk ⊢
    have hl : (wb cy B σ ++ Y).length = 380 + Y.length := by rw [List.length_append, wb_len]
    by_cases h : k < 380 + Y.length
    · rw [List.getElem?_append_left (by omega)] at hk
      show (_ ++ (V1 ++ V2))[if k < 380 + Y.length then k else k + V1.length]? = _
      rw [if_pos h, List.getElem?_append_left (by omega)]
      exact hk
    · rw [List.getElem?_append_right (by omega)] at hk
      show (_ ++ (V1 ++ V2))[if k < 380 + Y.length then k else k + V1.length]? = _
      rw [if_neg h, List.getElem?_append_right (by omega), List.getElem?_append_right (by omega), show k + V1.length - (wb cy B σ ++ Y).length - V1.length = k - (wb cy B σ ++ Y).length by omega]
      exact hk
  exact kk H locs ls ⟨hP.1.by _ hg, hP.2.by _ hg (fun i j _ _ h => by
    have h : (if i < 380 + Y.length then i else i + V1.length) = (if j < 380 + Y.length then j else j + V1.length) := h
    split at h <;> split at h <;> omega)⟩ hS hh
end XSB
/-- the law's three kinds -/
def ksf (ek : EK) : Nat → Option Nat := fun k => if k < 3 then some (ek.1 (k + 1)) else none
theorem ksf_up {ek : EK} : va_up (va_up (va_up (fun _ => none) (0 : Int32).toNatClampNeg (some (ek.1 1))) (1 : Int32).toNatClampNeg (some (ek.1 2))) (2 : Int32).toNatClampNeg (some (ek.1 3)) = ksf ek := by
  funext k
  have e0 : (0 : Int32).toNatClampNeg = 0 := rfl
  have e1 : (1 : Int32).toNatClampNeg = 1 := rfl
  have e2 : (2 : Int32).toNatClampNeg = 2 := rfl
  rw [e0, e1, e2]
  unfold va_up ksf
  rcases k with _ | _ | _ | k
  · rfl
  · rfl
  · rfl
  · rw [if_neg (by omega), if_neg (by omega), if_neg (by omega), if_neg (by omega)]
