/-! rows for the law: arrays of its own beside the world (written by wip/p47gen/xe.py) -/
abbrev cAc (cy : Nat → ClassId) (a : Nat) (f : Nat → Int32) : Nat × va_E := (a, .inl (cy 8, 8, .inl f))
abbrev cPl (cy : Nat → ClassId) (a : Nat) (f : Nat → Int32) : Nat × va_E := (a, .inl (cy 0, 3, .inl f))
abbrev cW5 (cy : Nat → ClassId) (a : Nat) (f : Nat → Int32) : Nat × va_E := (a, .inl (cy 0, 5, .inl f))
abbrev cDb (cy : Nat → ClassId) (a : Nat) (f : Nat → UInt64) : Nat × va_E := (a, .inl (cy 4, 120, .inr (.inr (.inr (.inl f)))))
abbrev cHd (cy : Nat → ClassId) (a : Nat) (aR : Nat → Nat) : Nat × va_E := (a, .inl (cy 9, 40, .inr (.inr (.inr (.inr (fun k => if k < 40 then some (aR k) else none))))))
abbrev cRw (cy : Nat → ClassId) (a : Nat) (f : Nat → Int32) : Nat × va_E := (a, .inl (cy 0, 30, .inl f))
def rowsL (cy : Nat → ClassId) (aR : Nat → Nat) (hd : Nat → Nat → Int32) : va_W := (List.range 40).map (fun k => cRw cy (aR k) (hd k))
def hdL (cy : Nat → ClassId) (aH : Nat) (aR : Nat → Nat) (hd : Nat → Nat → Int32) : va_W := cHd cy aH aR :: rowsL cy aR hd
def hdUp (hd : Nat → Nat → Int32) (k : Nat) (f : Nat → Int32) : Nat → Nat → Int32 := fun q => if q = k then f else hd q
theorem rowsL_at {cy : Nat → ClassId} {aR : Nat → Nat} {hd : Nat → Nat → Int32} {k : Nat} (hk : k < 40) : (rowsL cy aR hd)[k]? = some (cRw cy (aR k) (hd k)) := by simp [rowsL, hk]
theorem hdl_H {Y : va_W} {cy : Nat → ClassId} {aH : Nat} {aR : Nat → Nat} {hd : Nat → Nat → Int32} : (Y ++ hdL cy aH aR hd)[Y.length]? = some (cHd cy aH aR) := by rw [List.getElem?_append_right (Nat.le_refl _), Nat.sub_self]; rfl
theorem hdl_R {Y : va_W} {cy : Nat → ClassId} {aH : Nat} {aR : Nat → Nat} {hd : Nat → Nat → Int32} {k : Nat} (hk : k < 40) : (Y ++ hdL cy aH aR hd)[Y.length + 1 + k]? = some (cRw cy (aR k) (hd k)) := by
  rw [List.getElem?_append_right (by omega), show Y.length + 1 + k - Y.length = k + 1 by omega]
  exact rowsL_at hk
theorem hdl_set {Y : va_W} {cy : Nat → ClassId} {aH : Nat} {aR : Nat → Nat} {hd : Nat → Nat → Int32} {k : Nat} {f : Nat → Int32} (hk : k < 40) : (Y ++ hdL cy aH aR hd).set (Y.length + 1 + k) (cRw cy (aR k) f) = Y ++ hdL cy aH aR (hdUp hd k f) := by
  rw [List.set_append_right _ _ (by omega), show Y.length + 1 + k - Y.length = k + 1 by omega]
  show Y ++ cHd cy aH aR :: (rowsL cy aR hd).set k (cRw cy (aR k) f) = _
  congr 2
  apply List.ext_getElem?
  intro i
  by_cases hi : i < 40
  · by_cases hik : i = k
    · subst hik
      rw [List.getElem?_set_self (by simpa [rowsL] using hi), rowsL_at hi]
      simp [hdUp]
    · rw [List.getElem?_set_ne (fun h => hik h.symm), rowsL_at hi, rowsL_at hi]
      simp [hdUp, hik]
  · rw [List.getElem?_eq_none (by simpa [rowsL] using Nat.le_of_not_lt hi), List.getElem?_eq_none (by simpa [rowsL] using Nat.le_of_not_lt hi)]
theorem ap_some {α : Type} {Y V : List α} {i : Nat} {q : α} (h : Y[i]? = some q) : (Y ++ V)[i]? = some q := by
  rw [List.getElem?_append_left (List.getElem?_eq_some_iff.mp h).1]; exact h
theorem pu_0 {α : Type} {Y V : List α} {x : α} : (Y ++ x :: V)[Y.length]? = some x := by rw [List.getElem?_append_right (Nat.le_refl _), Nat.sub_self]; rfl
theorem pu_1 {α : Type} {Y V : List α} {x y : α} : (Y ++ x :: y :: V)[Y.length + 1]? = some y := by rw [List.getElem?_append_right (by omega), Nat.add_sub_cancel_left]; rfl
theorem ps_0 {α : Type} {Y V : List α} {x z : α} : (Y ++ x :: V).set Y.length z = Y ++ z :: V := by rw [List.set_append_right _ _ (Nat.le_refl _), Nat.sub_self]; rfl
theorem ps_1 {α : Type} {Y V : List α} {x y z : α} : (Y ++ x :: y :: V).set (Y.length + 1) z = Y ++ x :: z :: V := by rw [List.set_append_right _ _ (by omega), Nat.add_sub_cancel_left]; rfl
/-- what a method that makes cells leaves: an answer, a world -/
def QE (cy : Nat → ClassId) (D : va_G) (B : Nat) (P : Option Value → Mem → va_W → Prop) : Array Value → State → Outcome → State → Prop := fun _ st oc t => ∃ v σ Y, P v σ Y ∧ oc = .returned v ∧ PW cy D B σ Y t.heap ∧ va_F (aB B) st t
def CTE (l : Launch) (cy : Nat → ClassId) (D : va_G) (B : Nat) (ek : EK) (y : MethodName) (b : ByteArray) (n : Nat) (r : Option FieldType) (rm : Room) (mc ms : Nat) (av : List Value) (σ : Mem) (Y : va_W) (P : Option Value → Mem → va_W → Prop) : Prop :=
  Met l y (wsA y b n r) rm (va_Pc av (WP cy D B ek σ Y)) (QE cy D B P) mc ms (aB B)
section XE
variable {p : Program} {l : Launch} {e : Env} {R : Room} {s : State} {m : MethodId} {args : Array Value} {below : List Frame} {meth : Method} {c : Code} {nL : Nat} {cy : Nat → ClassId} {D : va_G} {B : Nat} {ek : EK} {own : String} {cc : ByteArray} {cells slots : Nat} {Q : State → Prop} {pc : Nat} {lcs : List (Nat × Value)} {st : List Value} {ad : Nat} {σ : Mem} {Y : va_W}
theorem x_ldc (C : Cx p s m args c nL cy D B ek own cc) {index : Nat} {v : Int32} (hlink : Cond.constant own index v ∈ lw_g) (hdg : decode cc pc = .ok (.ldc index, 2)) (kk : X p l e R s m args below meth c nL cy D B cells slots Q (pc + 2) lcs (.int v :: st) σ Y) : X p l e R s m args below meth c nL cy D B cells slots Q pc lcs st σ Y :=
  fun H locs ls hP hS hh => lv_ldc C.1 C.2.1 C.2.2.2.1 (C.2.2.2.2.1 _ hlink) hdg (kk H locs ls hP hS hh)
theorem x_slenE (C : Cx p s m args c nL cy D B ek own cc) {L : Nat} (hL : L = sL ek) (hdg : decode cc pc = .ok (.arraylength, 1)) (kk : X p l e R s m args below meth c nL cy D B cells slots Q (pc + 1) lcs (.int (Int32.ofNat L) :: st) σ Y) : X p l e R s m args below meth c nL cy D B cells slots Q pc lcs (.ref (sA ek) :: st) σ Y := by
  subst hL; exact x_slen C C.2.2.2.2.2.2.2.2.2.2.2.2.2.2.2.2.2.1 C.2.2.2.2.2.2.2.2.2.2.2.2.2.2.2.2.2.2.1 C.2.2.2.2.2.2.2.2.2.2.2.2.2.2.2.2.2.2.2.1 hdg kk
theorem x_sldE (C : Cx p s m args c nL cy D B ek own cc) {L : Nat} {xs : Nat → Int32} (hx : xs = sX ek) (hL : L = sL ek) {i : Int32} (hin : vp_in i L) (hdg : decode cc pc = .ok (.iaload, 1)) (kk : X p l e R s m args below meth c nL cy D B cells slots Q (pc + 1) lcs (.int (xs i.toNatClampNeg) :: st) σ Y) : X p l e R s m args below meth c nL cy D B cells slots Q pc lcs (.int i :: .ref (sA ek) :: st) σ Y := by
  subst hL; subst hx; exact x_sld C C.2.2.2.2.2.2.2.2.2.2.2.2.2.2.2.2.2.1 C.2.2.2.2.2.2.2.2.2.2.2.2.2.2.2.2.2.2.1 C.2.2.2.2.2.2.2.2.2.2.2.2.2.2.2.2.2.2.2.1 hin hdg kk
theorem x_zald (C : Cx p s m args c nL cy D B ek own cc) (o : Nat) {n : Nat} {f : Nat → Int32} (ha : (wl cy B σ Y)[o]? = some (ad, .inl (cy 8, n, .inl f))) {i : Int32} (hin : vp_in i n) (hdg : decode cc pc = .ok (.baload, 1)) (kk : X p l e R s m args below meth c nL cy D B cells slots Q (pc + 1) lcs (.int (f i.toNatClampNeg) :: st) σ Y) : X p l e R s m args below meth c nL cy D B cells slots Q pc lcs (.int i :: .ref ad :: st) σ Y :=
  fun H locs ls hP hS hh => va_zald C.1 C.2.1 C.2.2.2.2.2.1 hP.1 o 8 ha rfl hin hdg (kk H locs ls hP hS hh)
theorem x_zast (C : Cx p s m args c nL cy D B ek own cc) (o : Nat) {n : Nat} {f : Nat → Int32} (ha : (wl cy B σ Y)[o]? = some (ad, .inl (cy 8, n, .inl f))) {i : Int32} {x : Int32} (hin : vp_in i n) (hdg : decode cc pc = .ok (.bastore, 1)) {σ' : Mem} {Y' : va_W} (hs : (wl cy B σ Y).set o (ad, .inl (cy 8, n, .inl (upd f i.toNatClampNeg (vp_nar .boolean x)))) = wl cy B σ' Y') (kk : X p l e R s m args below meth c nL cy D B cells slots Q (pc + 1) lcs st σ' Y') : X p l e R s m args below meth c nL cy D B cells slots Q pc lcs (.int x :: .int i :: .ref ad :: st) σ Y :=
  fun H locs ls hP hS hh => va_zast C.1 C.2.1 C.2.2.2.2.2.1 hP.1 hP.2 hS o 8 ha rfl hin hdg (fun H1 locs1 hP1 hD1 hS1 => kk H1 locs1 ls (PW_of hs hP1 hD1) hS1 hh)
theorem x_aldR (C : Cx p s m args c nL cy D B ek own cc) (o : Nat) {n : Nat} {f : Nat → Option Nat} {a : Nat} (ha : (wl cy B σ Y)[o]? = some (ad, .inl (cy 9, n, .inr (.inr (.inr (.inr f)))))) {i : Int32} (hin : vp_in i n) (hf : f i.toNatClampNeg = some a) (hdg : decode cc pc = .ok (.aaload, 1)) (kk : X p l e R s m args below meth c nL cy D B cells slots Q (pc + 1) lcs (.ref a :: st) σ Y) : X p l e R s m args below meth c nL cy D B cells slots Q pc lcs (.int i :: .ref ad :: st) σ Y := by
  intro H locs ls hP hS hh
  have hlt : i.toNatClampNeg < n := Nat.not_le.mp fun q => hin (Or.inr q)
  exact W.aald (v := va_rf (f i.toNatClampNeg)) (ty := .array .int) C.1 C.2.1 (hP.1 o _ ha) ((C.2.2.2.2.2.1.2 9 _ rfl).1 n (fun j => va_rf (f j))) rfl (fun q => by cases q) (by show ¬ (i < 0 ∨ (arrV _ _ _).slots.size ≤ _); rw [arrV_size]; exact hin) (by show (arrV _ _ _).slots[_]? = _; rw [arrV_read _ _ hlt]) rfl rfl hdg (by rw [hf]; exact kk H locs ls hP hS hh)
theorem x_cut (V1 V2 : va_W) (kk : X p l e R s m args below meth c nL cy D B cells slots Q pc lcs st σ (Y ++ V1)) : X p l e R s m args below meth c nL cy D B cells slots Q pc lcs st σ (Y ++ (V1 ++ V2)) := by
  intro H locs ls hP hS hh
  have hg : ∀ (k : Nat) (q : Nat × va_E), (wl cy B σ (Y ++ V1))[k]? = some q → (wl cy B σ (Y ++ (V1 ++ V2)))[k]? = some q := by
    intro k q hk
    unfold wl at hk ⊢
    rw [← List.append_assoc, ← List.append_assoc]
    rw [← List.append_assoc] at hk
    exact ap_some hk
  exact kk H locs ls ⟨hP.1.by id hg, hP.2.by id hg (fun i j _ _ h => h)⟩ hS hh
theorem x_drop (V : va_W) (kk : X p l e R s m args below meth c nL cy D B cells slots Q pc lcs st σ Y) : X p l e R s m args below meth c nL cy D B cells slots Q pc lcs st σ (Y ++ V) := by
  have h := x_cut (Y := Y) (σ := σ) [] V (p := p) (l := l) (e := e) (R := R) (s := s) (m := m) (args := args) (below := below) (meth := meth) (c := c) (nL := nL) (cy := cy) (D := D) (B := B) (cells := cells) (slots := slots) (Q := Q) (pc := pc) (lcs := lcs) (st := st) (by rw [List.append_nil]; exact kk)
  exact h
theorem x_cut1 (x y : Nat × va_E) (kk : X p l e R s m args below meth c nL cy D B cells slots Q pc lcs st σ (Y ++ [y])) : X p l e R s m args below meth c nL cy D B cells slots Q pc lcs st σ (Y ++ [x, y]) := by
  intro H locs ls hP hS hh
  have hg : ∀ (k : Nat) (q : Nat × va_E), (wl cy B σ (Y ++ [y]))[k]? = some q → (wl cy B σ (Y ++ [x, y]))[(fun i => if i < 380 + Y.length then i else i + 1) k]? = some q := by
    intro k q hk
    unfold wl at hk ⊢
    rw [← List.append_assoc] at hk ⊢
    have hl : (wb cy B σ ++ Y).length = 380 + Y.length := by rw [List.length_append, wb_len]
    by_cases h : k < 380 + Y.length
    · rw [List.getElem?_append_left (by omega)] at hk
      show (_ ++ [x, y])[if k < 380 + Y.length then k else k + 1]? = _
      rw [if_pos h, List.getElem?_append_left (by omega)]
      exact hk
    · rw [List.getElem?_append_right (by omega)] at hk
      have h1 : k - (wb cy B σ ++ Y).length < 1 := (List.getElem?_eq_some_iff.mp hk).1
      show (_ ++ [x, y])[if k < 380 + Y.length then k else k + 1]? = _
      rw [if_neg h, List.getElem?_append_right (by omega), show k + 1 - (wb cy B σ ++ Y).length = 1 by omega]
      rw [show k - (wb cy B σ ++ Y).length = 0 by omega] at hk
      exact hk
  exact kk H locs ls ⟨hP.1.by _ hg, hP.2.by _ hg (fun i j _ _ h => by
    have h : (if i < 380 + Y.length then i else i + 1) = (if j < 380 + Y.length then j else j + 1) := h
    split at h <;> split at h <;> omega)⟩ hS hh
theorem x_newI (C : Cx p s m args c nL cy D B ek own cc) (harr : Cond.arrayClass (.int) ∈ lw_g) {n : Int32} {z : Nat} (hn : ¬ n < 0) (hN : n.toNatClampNeg = z) (hz : z ≤ 60000000) (hcells : cells + 1 ≤ R.cells) (hslots : slots + z ≤ R.slots) (hdg : decode cc pc = .ok (.newarray .int, 2)) (kk : ∀ a : Nat, X p l e R s m args below meth c nL cy D B (cells + 1) (slots + z) Q (pc + 2) lcs (.ref a :: st) σ (Y ++ [(a, .inl (cy 0, z, .inl (fun _ => 0)))])) : X p l e R s m args below meth c nL cy D B cells slots Q pc lcs (.int n :: st) σ Y := by
  intro H locs ls hP hS hh
  refine va_newa (atype := .int) (ty := .int) (a0 := (z, .inl (fun _ => 0))) C.1 C.2.1 (C.2.2.2.2.1 _ harr) rfl C.2.2.2.2.2.1 hP.1 hP.2 hS (fun q hq => Nat.le_trans C.2.2.2.2.2.2.1 hq) (fun cA => rfl) hn hN (by show z * 4 ≤ 536870912; omega) hcells hslots hdg (fun q cA H1 hK hP1 hD1 hS1 => ?_)
  have e : cA = cy 0 := by
    have h1 := (hK.2 (tysL cy).length _ (by rw [List.getElem?_append_right (Nat.le_refl _), Nat.sub_self]; rfl)).2
    have h2 := (C.2.2.2.2.2.1.2 0 _ rfl).2
    exact Option.some.inj (h1.symm.trans h2)
  subst e
  have ew : wl cy B σ Y ++ [(q, Sum.inl (cy 0, z, .inl (fun _ => 0)))] = wl cy B σ (Y ++ [(q, Sum.inl (cy 0, z, .inl (fun _ => 0)))]) := by unfold wl; rw [List.append_assoc]
  rw [ew] at hP1 hD1
  exact kk q H1 locs ls ⟨hP1, hD1⟩ hS1 hh
theorem x_newZ (C : Cx p s m args c nL cy D B ek own cc) (harr : Cond.arrayClass (.boolean) ∈ lw_g) {n : Int32} {z : Nat} (hn : ¬ n < 0) (hN : n.toNatClampNeg = z) (hz : z ≤ 60000000) (hcells : cells + 1 ≤ R.cells) (hslots : slots + z ≤ R.slots) (hdg : decode cc pc = .ok (.newarray .boolean, 2)) (kk : ∀ a : Nat, X p l e R s m args below meth c nL cy D B (cells + 1) (slots + z) Q (pc + 2) lcs (.ref a :: st) σ (Y ++ [(a, .inl (cy 8, z, .inl (fun _ => 0)))])) : X p l e R s m args below meth c nL cy D B cells slots Q pc lcs (.int n :: st) σ Y := by
  intro H locs ls hP hS hh
  refine va_newa (atype := .boolean) (ty := .boolean) (a0 := (z, .inl (fun _ => 0))) C.1 C.2.1 (C.2.2.2.2.1 _ harr) rfl C.2.2.2.2.2.1 hP.1 hP.2 hS (fun q hq => Nat.le_trans C.2.2.2.2.2.2.1 hq) (fun cA => rfl) hn hN (by show z * 1 ≤ 536870912; omega) hcells hslots hdg (fun q cA H1 hK hP1 hD1 hS1 => ?_)
  have e : cA = cy 8 := by
    have h1 := (hK.2 (tysL cy).length _ (by rw [List.getElem?_append_right (Nat.le_refl _), Nat.sub_self]; rfl)).2
    have h2 := (C.2.2.2.2.2.1.2 8 _ rfl).2
    exact Option.some.inj (h1.symm.trans h2)
  subst e
  have ew : wl cy B σ Y ++ [(q, Sum.inl (cy 8, z, .inl (fun _ => 0)))] = wl cy B σ (Y ++ [(q, Sum.inl (cy 8, z, .inl (fun _ => 0)))]) := by unfold wl; rw [List.append_assoc]
  rw [ew] at hP1 hD1
  exact kk q H1 locs ls ⟨hP1, hD1⟩ hS1 hh
theorem x_newD (C : Cx p s m args c nL cy D B ek own cc) (harr : Cond.arrayClass (.double) ∈ lw_g) {n : Int32} {z : Nat} (hn : ¬ n < 0) (hN : n.toNatClampNeg = z) (hz : z ≤ 60000000) (hcells : cells + 1 ≤ R.cells) (hslots : slots + z ≤ R.slots) (hdg : decode cc pc = .ok (.newarray .double, 2)) (kk : ∀ a : Nat, X p l e R s m args below meth c nL cy D B (cells + 1) (slots + z) Q (pc + 2) lcs (.ref a :: st) σ (Y ++ [(a, .inl (cy 4, z, .inr (.inr (.inr (.inl (fun _ => 0))))))])) : X p l e R s m args below meth c nL cy D B cells slots Q pc lcs (.int n :: st) σ Y := by
  intro H locs ls hP hS hh
  refine va_newa (atype := .double) (ty := .double) (a0 := (z, .inr (.inr (.inr (.inl (fun _ => 0)))))) C.1 C.2.1 (C.2.2.2.2.1 _ harr) rfl C.2.2.2.2.2.1 hP.1 hP.2 hS (fun q hq => Nat.le_trans C.2.2.2.2.2.2.1 hq) (fun cA => rfl) hn hN (by show z * 8 ≤ 536870912; omega) hcells hslots hdg (fun q cA H1 hK hP1 hD1 hS1 => ?_)
  have e : cA = cy 4 := by
    have h1 := (hK.2 (tysL cy).length _ (by rw [List.getElem?_append_right (Nat.le_refl _), Nat.sub_self]; rfl)).2
    have h2 := (C.2.2.2.2.2.1.2 4 _ rfl).2
    exact Option.some.inj (h1.symm.trans h2)
  subst e
  have ew : wl cy B σ Y ++ [(q, Sum.inl (cy 4, z, .inr (.inr (.inr (.inl (fun _ => 0))))))] = wl cy B σ (Y ++ [(q, Sum.inl (cy 4, z, .inr (.inr (.inr (.inl (fun _ => 0))))))]) := by unfold wl; rw [List.append_assoc]
  rw [ew] at hP1 hD1
  exact kk q H1 locs ls ⟨hP1, hD1⟩ hS1 hh
theorem x_newB (C : Cx p s m args c nL cy D B ek own cc) (harr : Cond.arrayClass (.byte) ∈ lw_g) {n : Int32} {z : Nat} (hn : ¬ n < 0) (hN : n.toNatClampNeg = z) (hz : z ≤ 60000000) (hcells : cells + 1 ≤ R.cells) (hslots : slots + z ≤ R.slots) (hdg : decode cc pc = .ok (.newarray .byte, 2)) (kk : ∀ a : Nat, X p l e R s m args below meth c nL cy D B (cells + 1) (slots + z) Q (pc + 2) lcs (.ref a :: st) σ (Y ++ [(a, .inl (cy 2, z, .inl (fun _ => 0)))])) : X p l e R s m args below meth c nL cy D B cells slots Q pc lcs (.int n :: st) σ Y := by
  intro H locs ls hP hS hh
  refine va_newa (atype := .byte) (ty := .byte) (a0 := (z, .inl (fun _ => 0))) C.1 C.2.1 (C.2.2.2.2.1 _ harr) rfl C.2.2.2.2.2.1 hP.1 hP.2 hS (fun q hq => Nat.le_trans C.2.2.2.2.2.2.1 hq) (fun cA => rfl) hn hN (by show z * 1 ≤ 536870912; omega) hcells hslots hdg (fun q cA H1 hK hP1 hD1 hS1 => ?_)
  have e : cA = cy 2 := by
    have h1 := (hK.2 (tysL cy).length _ (by rw [List.getElem?_append_right (Nat.le_refl _), Nat.sub_self]; rfl)).2
    have h2 := (C.2.2.2.2.2.1.2 2 _ rfl).2
    exact Option.some.inj (h1.symm.trans h2)
  subst e
  have ew : wl cy B σ Y ++ [(q, Sum.inl (cy 2, z, .inl (fun _ => 0)))] = wl cy B σ (Y ++ [(q, Sum.inl (cy 2, z, .inl (fun _ => 0)))]) := by unfold wl; rw [List.append_assoc]
  rw [ew] at hP1 hD1
  exact kk q H1 locs ls ⟨hP1, hD1⟩ hS1 hh
theorem x_multi (C : Cx p s m args c nL cy D B ek own cc) {index : Nat} (hcl : Cond.classLink own index "[[I" ∈ lw_g) (hov : Cond.arrayOver (.array .int) ∈ lw_tbl) (hov2 : va_AOA .int s) (harr : Cond.arrayClass .int ∈ lw_g) (hcells : cells + 41 ≤ R.cells) (hslots : slots + 1240 ≤ R.slots) (hdg : decode cc pc = .ok (.multianewarray index 2, 4)) (kk : ∀ (aH : Nat) (aR : Nat → Nat), X p l e R s m args below meth c nL cy D B (cells + 41) (slots + 1240) Q (pc + 4) lcs (.ref aH :: st) σ (Y ++ hdL cy aH aR (fun _ _ => 0))) : X p l e R s m args below meth c nL cy D B cells slots Q pc lcs (.int 30 :: .int 40 :: st) σ Y := by
  intro H locs ls hP hS hh
  have hcy : s.vm.findClass (FieldType.array .int).toString = some (cy 0) := (C.2.2.2.2.2.1.2 0 _ rfl).2
  have hP0 : va_P D vwCl (wl cy B σ Y ++ va_pl [] (fun _ => .inr (0, []))) H := by simpa [va_pl] using hP.1
  have hD0 : va_D (aB B) (wl cy B σ Y ++ va_pl [] (fun _ => .inr (0, []))) := by simpa [va_pl] using hP.2
  refine va_mna (X := wl cy B σ Y) (L := []) (f := fun _ => .inr (0, [])) (ty := .int) (z := (30, .inl (fun _ => 0))) (N' := 40) (K' := 30) C.1 C.2.1 C.2.2.2.1 (C.2.2.2.2.1 _ hcl) hov2 (C.2.2.2.2.1 _ harr) hcy C.2.2.2.2.2.1 hP0 hD0 hS (fun q hq => Nat.le_trans C.2.2.2.2.2.2.1 hq) (by decide) (by decide) (by decide) (by decide) (by decide) (by decide) (by decide) (by decide) (by decide) (by omega) (by omega) (fun c => by show _ = _; rfl) hdg (fun q r cA H1 hr hrL hK hP1 hD1 hS1 => ?_)
  have e : cA = cy 9 := by
    have h1 := (hK.2 (tysL cy).length _ (by rw [List.getElem?_append_right (Nat.le_refl _), Nat.sub_self]; rfl)).2
    have h2 := (C.2.2.2.2.2.1.2 9 _ rfl).2
    exact Option.some.inj (h1.symm.trans h2)
  subst e
  have ep : va_pl ([] ++ (List.range 40).map r) (vr_up (fun _ => .inr (0, [])) ((List.range 40).map r) (.inl (cy 0, (30, .inl (fun _ => 0))))) = rowsL cy r (fun _ _ => 0) := by
    unfold va_pl rowsL
    rw [List.nil_append, List.map_map]
    apply List.map_congr_left
    intro k hk
    show (r k, vr_up _ _ _ (r k)) = _
    unfold vr_up
    rw [if_pos (List.mem_map.mpr ⟨k, hk, rfl⟩)]
  rw [ep] at hP1 hD1
  have ew : ∀ c : Nat × va_E, (wl cy B σ Y ++ [c]) ++ rowsL cy r (fun _ _ => 0) = wl cy B σ (Y ++ (c :: rowsL cy r (fun _ _ => 0))) := by
    intro c
    unfold wl
    simp [List.append_assoc]
  rw [ew] at hP1 hD1
  exact kk q r H1 locs ls ⟨hP1, hD1⟩ hS1 hh
theorem x_callVE (C : Cx p s m args c nL cy D B ek own cc) {y : MethodName} {bytes : ByteArray} {maxL index : Nat} {ret : Option FieldType} {rm : Room} {As rest : List Value} {mc ms : Nat} {P : Option Value → Mem → va_W → Prop} {C1 : String} {T : u_T} {N ci : Nat} {o : Nat} {fs : List Value} (hinst : Cond.instanceMethod y ∈ lw_g) (hsel : Cond.selects C1 y y ∈ lw_g) (he : (wl cy B σ Y)[o]? = some (ad, .inr (ci, fs))) (hc : vwCl[ci]? = some (C1, T, N)) (hM : CTE l cy D B ek y bytes maxL ret rm mc ms (.ref ad :: As) σ Y P) (hrc : rm.cells = mc) (hrs : rm.slots = ms) (hR : rm.frames + 1 ≤ R.frames ∧ 8 + (maxL + 11) + rm.locals ≤ R.locals) (hcode : Cond.code y bytes maxL ret ∈ lw_g) (hini : Cond.initialized y.cls ∈ lw_g) (hy : y.cls ≠ "java/lang/invoke/MethodHandle" ∧ y.cls ≠ "java/lang/invoke/VarHandle") (hlen : (parseMethodDescriptor y.desc).map (fun d => d.parameters.length) = some As.length) (hlink : Cond.methodLink own index y ∈ lw_g) (hstk : st = As.reverse ++ .ref ad :: rest) (hW : (rest.map fun v => v.category).sum ≤ 8) (hdg : decode cc pc = .ok (.invokevirtual index, 3)) (hcs : cells + mc ≤ R.cells ∧ slots + ms ≤ R.slots) (kk : ∀ v σ' Y', P v σ' Y' → X p l e R s m args below meth c nL cy D B (cells + mc) (slots + ms) Q (pc + 3) lcs (v.toList ++ rest) σ' Y') : X p l e R s m args below meth c nL cy D B cells slots Q pc lcs st σ Y := by
  intro H locs ls hP hS hh T hT XS
  have hts := C.2.2.2.2.1
  have hK := C.2.2.2.2.2.1
  have hws : ∀ w ∈ wsA y bytes maxL ret, ∀ (a9 : Array Value) (U : State), s.WarmedH U.vm → w.before a9 U = true := by
    intro w hw a9 U hW9
    rcases List.mem_cons.mp hw with rfl | hw
    · exact word_at hW9 (good_of_word (lw_g_good _ hcode)) (hts _ hcode)
    · exact word_at hW9 (good_of_word (lw_g_good _ hw)) (hts _ hw)
  have hlen9 : ∀ sig, parseMethodDescriptor y.desc = some sig → As.length = sig.parameters.length := by
    intro sig h9
    rw [h9] at hlen
    exact (Option.some.inj hlen).symm
  have run := va_runV (e := e) (locs := locs) (meth := meth) (below := below) (g := F0 m pc ls st) (rest := rest) (As := As) ⟨C.1, C.2.1, C.2.2.1, C.2.2.2.1, hts⟩ hM (n := As.length) ⟨⟨hrc, hrs, hR.1, hR.2, hws, List.mem_cons_self, hts _ hcode, hts _ hini, hy, hlen9, hts _ hlink⟩, hts _ hinst, hts _ hsel⟩ ⟨fun a U g mk q => by obtain ⟨q0, qP, qK, qS, qE⟩ := q; exact ⟨q0, qP, va_K.moved (u := U) (U := U.calling g mk a) (Vm.Alike.refl U.vm) qK, qS, qE.warm (U' := U.calling g mk a) (State.WarmedH.refl U) (Nat.le_refl _) (fun _ _ _ => rfl)⟩, va_recv hK hP.1 hc he, fun U hU hW9 => ⟨rfl, by rw [hU]; exact hP, va_K.moved hW9.alike hK, by rw [hU]; exact Nat.le_trans C.2.2.2.2.2.2.1 hS.1, by rw [hU]; exact C.2.2.2.2.2.2.2.warm hW9 hS.1 hS.2.1⟩⟩ rfl rfl hh.1 hstk (lv_room hW) hdg (cells := cells) (slots := slots) ⟨hcs.1, hcs.2⟩
  obtain ⟨v9, st0, t, T', L, h0, X', hL, e1, e2, ⟨v8, σ8, W8, hp, hv, hP', hF⟩, hg⟩ := run T hT XS
  cases hv
  obtain ⟨t2, a1, b1⟩ := kk v9 σ8 W8 hp T'.heap (locs ++ L) ls (by rw [e1]; exact hP') ⟨Nat.le_trans hS.1 (by rw [e1, ← h0]; exact hF.1), fun q h1 h2 => by rw [e1, hF.2 q (by rw [h0]; exact Nat.lt_of_lt_of_le h1 hS.1) h2, h0]; exact hS.2.1 q h1 h2, fun q hq => (List.mem_append.mp hq).elim (hS.2.2 q) (hL q)⟩ hh T' rfl X'
  exact ⟨t2, hg t2 a1, b1⟩
theorem x_callSE (C : Cx p s m args c nL cy D B ek own cc) {y : MethodName} {bytes : ByteArray} {maxL index : Nat} {ret : Option FieldType} {rm : Room} {As rest : List Value} {mc ms : Nat} {P : Option Value → Mem → va_W → Prop} (hstat : Cond.static y ∈ lw_g) (hM : CTE l cy D B ek y bytes maxL ret rm mc ms As σ Y P) (hrc : rm.cells = mc) (hrs : rm.slots = ms) (hR : rm.frames + 1 ≤ R.frames ∧ 8 + (maxL + 11) + rm.locals ≤ R.locals) (hcode : Cond.code y bytes maxL ret ∈ lw_g) (hini : Cond.initialized y.cls ∈ lw_g) (hy : y.cls ≠ "java/lang/invoke/MethodHandle" ∧ y.cls ≠ "java/lang/invoke/VarHandle") (hlen : (parseMethodDescriptor y.desc).map (fun d => d.parameters.length) = some As.length) (hlink : Cond.methodLink own index y ∈ lw_g) (hstk : st = As.reverse ++ rest) (hW : (rest.map fun v => v.category).sum ≤ 8) (hdg : decode cc pc = .ok (.invokestatic index, 3)) (hcs : cells + mc ≤ R.cells ∧ slots + ms ≤ R.slots) (kk : ∀ v σ' Y', P v σ' Y' → X p l e R s m args below meth c nL cy D B (cells + mc) (slots + ms) Q (pc + 3) lcs (v.toList ++ rest) σ' Y') : X p l e R s m args below meth c nL cy D B cells slots Q pc lcs st σ Y := by
  intro H locs ls hP hS hh T hT XS
  have hts := C.2.2.2.2.1
  have hK := C.2.2.2.2.2.1
  have hws : ∀ w ∈ wsA y bytes maxL ret, ∀ (a9 : Array Value) (U : State), s.WarmedH U.vm → w.before a9 U = true := by
    intro w hw a9 U hW9
    rcases List.mem_cons.mp hw with rfl | hw
    · exact word_at hW9 (good_of_word (lw_g_good _ hcode)) (hts _ hcode)
    · exact word_at hW9 (good_of_word (lw_g_good _ hw)) (hts _ hw)
  have hlen9 : ∀ sig, parseMethodDescriptor y.desc = some sig → As.length = sig.parameters.length := by
    intro sig h9
    rw [h9] at hlen
    exact (Option.some.inj hlen).symm
  have run := va_runS (e := e) (locs := locs) (meth := meth) (below := below) (g := F0 m pc ls st) (rest := rest) (As := As) ⟨C.1, C.2.1, C.2.2.1, C.2.2.2.1, hts⟩ hM (n := As.length) ⟨⟨hrc, hrs, hR.1, hR.2, hws, List.mem_cons_self, hts _ hcode, hts _ hini, hy, hlen9, hts _ hlink⟩, hts _ hstat⟩ ⟨fun a U g mk q => by obtain ⟨q0, qP, qK, qS, qE⟩ := q; exact ⟨q0, qP, va_K.moved (u := U) (U := U.calling g mk a) (Vm.Alike.refl U.vm) qK, qS, qE.warm (U' := U.calling g mk a) (State.WarmedH.refl U) (Nat.le_refl _) (fun _ _ _ => rfl)⟩, fun U hU hW9 => ⟨rfl, by rw [hU]; exact hP, va_K.moved hW9.alike hK, by rw [hU]; exact Nat.le_trans C.2.2.2.2.2.2.1 hS.1, by rw [hU]; exact C.2.2.2.2.2.2.2.warm hW9 hS.1 hS.2.1⟩⟩ rfl rfl hh.1 hstk (lv_room hW) hdg (cells := cells) (slots := slots) ⟨hcs.1, hcs.2⟩
  obtain ⟨v9, st0, t, T', L, h0, X', hL, e1, e2, ⟨v8, σ8, W8, hp, hv, hP', hF⟩, hg⟩ := run T hT XS
  cases hv
  obtain ⟨t2, a1, b1⟩ := kk v9 σ8 W8 hp T'.heap (locs ++ L) ls (by rw [e1]; exact hP') ⟨Nat.le_trans hS.1 (by rw [e1, ← h0]; exact hF.1), fun q h1 h2 => by rw [e1, hF.2 q (by rw [h0]; exact Nat.lt_of_lt_of_le h1 hS.1) h2, h0]; exact hS.2.1 q h1 h2, fun q hq => (List.mem_append.mp hq).elim (hS.2.2 q) (hL q)⟩ hh T' rfl X'
  exact ⟨t2, hg t2 a1, b1⟩
end XE
theorem met_XE {l : Launch} {y : MethodName} {b : ByteArray} {n : Nat} {r : Option FieldType} {rm : Room} {mc ms : Nat} {av : List Value} {cy : Nat → ClassId} {D : va_G} {B : Nat} {ek : EK} {own : String} {σ : Mem} {Y : va_W} {P : Option Value → Mem → va_W → Prop} (hy : plainName y.cls = true) (hown : y.cls = own) (hlen : (lg_sl av).length ≤ n)
    (body : ∀ p e s m args below meth c, Cx p s m args c n cy D B ek own b → meth.sig.returnType = r → meth.locks = false → X p l e rm s m args below meth c n cy D B 0 0 (MQ below (QE cy D B P) args s mc ms (aB B)) 0 (lv_args 0 av) [] σ Y) : CTE l cy D B ek y b n r rm mc ms av σ Y P := by
  refine Met.ofW (cc := b) (maxL := n) (ret := r) hy rfl ?_
  intro p e s m args below meth c s₁ Bd hml hv
  obtain ⟨rfl, hP, hK, hB, hE⟩ := hv
  have hts : ∀ w ∈ lw_g, w.before av.toArray s = true := fun w hw => atoms_spec (ws := wsA y b n r) Bd.pre w (List.mem_cons_of_mem _ hw)
  have hown9 : s.vm.findClass own = some m.cls := hown ▸ findClass_of_methodNamed Bd.named
  have k := body p e s m av.toArray below meth c ⟨Bd.exec, Bd.bytes, hml, hown9, hts, hK, hB, hE⟩ Bd.returns Bd.notSynchronized
  have hl := lv_entry av (n := n) hlen
  rw [lg_entry_eq]
  exact k s.heap [] _ hP va_S.rf hl
theorem x_zretE {p : Program} {l : Launch} {e : Env} {R : Room} {s : State} {m : MethodId} {args : Array Value} {below : List Frame} {meth : Method} {c : Code} {nL : Nat} {cy : Nat → ClassId} {D : va_G} {B : Nat} {ek : EK} {own : String} {cc : ByteArray} {cells slots : Nat} {pc : Nat} {lcs : List (Nat × Value)} {σ : Mem} {Y : va_W} (C : Cx p s m args c nL cy D B ek own cc) {ty : FieldType} {x : Int32} {mc ms : Nat} {P : Option Value → Mem → va_W → Prop} (hr : meth.sig.returnType = some ty) (hlocks : meth.locks = false) (hn : narrow ty (.int x) = .int x) (hdg : decode cc pc = .ok (.ireturn, 1)) (hc : cells ≤ mc) (hs : slots ≤ ms) (hp : P (some (.int x)) σ Y) : X p l e R s m args below meth c nL cy D B cells slots (MQ below (QE cy D B P) args s mc ms (aB B)) pc lcs [.int x] σ Y :=
  fun H locs ls hP hS hh => W.widen hc hs (W.zret C.1 C.2.1 hr hn (fun t ht hW => ⟨_, _, _, hp, rfl, by rw [ht]; exact hP, hS.F ht⟩) hS.2.2 hdg hlocks)
theorem x_vretE {p : Program} {l : Launch} {e : Env} {R : Room} {s : State} {m : MethodId} {args : Array Value} {below : List Frame} {meth : Method} {c : Code} {nL : Nat} {cy : Nat → ClassId} {D : va_G} {B : Nat} {ek : EK} {own : String} {cc : ByteArray} {cells slots : Nat} {pc : Nat} {lcs : List (Nat × Value)} {σ : Mem} {Y : va_W} (C : Cx p s m args c nL cy D B ek own cc) {mc ms : Nat} {P : Option Value → Mem → va_W → Prop} (hr : meth.sig.returnType = none) (hlocks : meth.locks = false)  (hdg : decode cc pc = .ok (.return_, 1)) (hc : cells ≤ mc) (hs : slots ≤ ms) (hp : P none σ Y) : X p l e R s m args below meth c nL cy D B cells slots (MQ below (QE cy D B P) args s mc ms (aB B)) pc lcs [] σ Y :=
  fun H locs ls hP hS hh => W.widen hc hs (W.vret C.1 C.2.1 hr (fun t ht hW => ⟨_, _, _, hp, rfl, by rw [ht]; exact hP, hS.F ht⟩) hS.2.2 hdg hlocks)
theorem x_aretE {p : Program} {l : Launch} {e : Env} {R : Room} {s : State} {m : MethodId} {args : Array Value} {below : List Frame} {meth : Method} {c : Code} {nL : Nat} {cy : Nat → ClassId} {D : va_G} {B : Nat} {ek : EK} {own : String} {cc : ByteArray} {cells slots : Nat} {pc : Nat} {lcs : List (Nat × Value)} {σ : Mem} {Y : va_W} (C : Cx p s m args c nL cy D B ek own cc) {ty : FieldType} {x : Nat} {mc ms : Nat} {P : Option Value → Mem → va_W → Prop} (hr : meth.sig.returnType = some ty) (hlocks : meth.locks = false) (hty : (∃ n, ty = .object n) ∨ ∃ t, ty = .array t)  (hdg : decode cc pc = .ok (.areturn, 1)) (hc : cells ≤ mc) (hs : slots ≤ ms) (hp : P (some (.ref x)) σ Y) : X p l e R s m args below meth c nL cy D B cells slots (MQ below (QE cy D B P) args s mc ms (aB B)) pc lcs [.ref x] σ Y :=
  fun H locs ls hP hS hh => W.widen hc hs (W.aret C.1 C.2.1 hr hty (Or.inr ⟨_, rfl⟩) (fun t ht hW => ⟨_, _, _, hp, rfl, by rw [ht]; exact hP, hS.F ht⟩) hS.2.2 hdg hlocks)
/-- a loop whose rounds are counted: what is left of n says what has been made -/
theorem loop_runN {α β : Type} {step : α → Option (α ⊕ β)} {N : Nat} {P : Nat → α → Prop} {K : β → Prop} (hs : ∀ n a r, n < N → step a = some r → (∀ a2, r = .inl a2 → P n a2) → (∀ b, r = .inr b → K b) → P (n + 1) a) : ∀ (n : Nat) (a : α) (b : β), n ≤ N → loop step n a = some b → K b → P n a := by
  intro n
  induction n with
  | zero => intro a b hn h; cases h
  | succ n ih =>
    intro a b hn h hK
    unfold loop at h
    cases hst : step a with
    | none => rw [hst] at h; cases h
    | some r =>
      rw [hst] at h
      cases r with
      | inl a2 => exact hs n a _ (by omega) hst (fun a3 e => by cases e; exact ih a2 b (by omega) h hK) (fun b3 e => by cases e)
      | inr b2 => exact hs n a _ (by omega) hst (fun a3 e => by cases e) (fun b3 e => by cases e; cases h; exact hK)
theorem hAO0 {p : Program} {s : State} {m : MethodId} {args : Array Value} {c : Code} {nL : Nat} {cy : Nat → ClassId} {D : va_G} {B : Nat} {ek : EK} {own : String} {cc : ByteArray} (C : Cx p s m args c nL cy D B ek own cc) : va_AOA .int s := C.2.2.2.2.2.2.2.2.2.2.2.2.2.2.2.2.2.2.2.2.1
