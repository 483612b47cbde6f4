/-! rows for the constructors: the world is n cells from B on, cell o is F o (written by wip/gen/nrows.py) -/
def pw (B n : Nat) (F : Nat → va_E) : va_W := (List.range n).map (fun o => (B + o, F o))
theorem pw_at {B n : Nat} {F : Nat → va_E} {o : Nat} (ho : o < n) : (pw B n F)[o]? = some (B + o, F o) := by simp [pw, ho]
theorem pw_is {B n : Nat} {F : Nat → va_E} {o : Nat} {e : va_E} (ho : o < n) (he : F o = e) : (pw B n F)[o]? = some (B + o, e) := by rw [pw_at ho, he]
theorem pw_ext {B n : Nat} {F G : Nat → va_E} (h : ∀ o, o < n → F o = G o) : pw B n F = pw B n G := List.map_congr_left (fun o ho => by rw [h o (List.mem_range.mp ho)])
def fu (F : Nat → va_E) (o : Nat) (e : va_E) : Nat → va_E := fun x => if x = o then e else F x
theorem pw_set {B n : Nat} {F : Nat → va_E} {o : Nat} {e : va_E} (ho : o < n) : (pw B n F).set o (B + o, e) = pw B n (fu F o e) := by
  apply List.ext_getElem?
  intro i
  by_cases hi : i < n
  · by_cases hio : i = o
    · subst hio
      rw [List.getElem?_set_self (by simpa [pw] using hi), pw_at hi]
      simp [fu]
    · rw [List.getElem?_set_ne (fun h => hio h.symm), pw_at hi, pw_at hi]
      simp [fu, hio]
  · rw [List.getElem?_eq_none (by simpa [pw] using Nat.le_of_not_lt hi), List.getElem?_eq_none (by simpa [pw] using Nat.le_of_not_lt hi)]
theorem pw_push {B n : Nat} {F : Nat → va_E} {e : va_E} : pw B n F ++ [(B + n, e)] = pw B (n + 1) (fu F n e) := by
  unfold pw
  rw [List.range_succ, List.map_append]
  congr 1
  · exact List.map_congr_left (fun x hx => by have := List.mem_range.mp hx; simp [fu, Nat.ne_of_lt this])
  · simp [fu]
theorem pw_D {B n : Nat} {F : Nat → va_E} : va_D (aB B) (pw B n F) := by
  have key : ∀ (i : Nat) (p : Nat × va_E), (pw B n F)[i]? = some p → p.1 = B + i := by
    intro i p h
    simp only [pw, List.getElem?_map, Option.map_eq_some_iff] at h
    obtain ⟨a, h1, h2⟩ := h
    have h3 := List.getElem?_eq_some_iff.mp h1
    obtain ⟨h4, h5⟩ := h3
    rw [List.getElem_range] at h5
    subst h5
    rw [← h2]
  refine ⟨fun i j p q hi hj hpq => ?_, fun k q hk => ?_⟩
  · rw [key i p hi, key j q hj] at hpq
    omega
  · rw [key k q hk]
    exact Nat.le_add_right _ _
/-- cells in a row from o on -/
def fl (F : Nat → va_E) (o : Nat) (L : List va_E) : Nat → va_E := fun x => if x < o then F x else L.getD (x - o) (.inr (0, []))
theorem fl_at {F : Nat → va_E} {o i : Nat} {L : List va_E} {e : va_E} (h : L[i]? = some e) : fl F o L (o + i) = e := by
  unfold fl
  rw [if_neg (by omega), Nat.add_sub_cancel_left, List.getD_eq_getElem?_getD, h]
  rfl
theorem fl_lo {F : Nat → va_E} {o x : Nat} {L : List va_E} (h : x < o) : fl F o L x = F x := by simp [fl, h]
theorem fl_one {F : Nat → va_E} {o : Nat} {e : va_E} (h : F o = e) : ∀ x, x < o + 1 → F x = fl F o [e] x := by
  intro x hx
  by_cases h1 : x < o
  · rw [fl_lo h1]
  · have : x = o := by omega
    subst this
    rw [h]
    exact (fl_at (i := 0) (L := [e]) rfl).symm
theorem fl_set {F : Nat → va_E} {o i q n : Nat} {L L2 : List va_E} {e : va_E} (hq : q = o + i) (hi : i < L.length) (hL : L.set i e = L2) : ∀ x, x < n → fu (fl F o L) q e x = fl F o L2 x := by
  intro x _
  subst hq; subst hL
  unfold fu fl
  by_cases h1 : x < o
  · rw [if_neg (by omega), if_pos h1, if_pos h1]
  · rw [if_neg h1, if_neg h1]
    by_cases h2 : x = o + i
    · rw [if_pos h2, h2]
      simp [List.getD_eq_getElem?_getD, hi]
    · rw [if_neg h2]
      simp only [List.getD_eq_getElem?_getD]
      rw [List.getElem?_set_ne (by omega)]
theorem fl_push {F : Nat → va_E} {o q n : Nat} {L L2 : List va_E} {e : va_E} (hq : q = o + L.length) (hL : L ++ [e] = L2) : ∀ x, x < n → fu (fl F o L) q e x = fl F o L2 x := by
  intro x _
  subst hq; subst hL
  unfold fu fl
  by_cases h1 : x < o
  · rw [if_neg (by omega), if_pos h1, if_pos h1]
  · rw [if_neg h1, if_neg h1]
    by_cases h2 : x = o + L.length
    · rw [if_pos h2, h2]
      simp [List.getD_eq_getElem?_getD]
    · rw [if_neg h2]
      simp only [List.getD_eq_getElem?_getD]
      by_cases h3 : x - o < L.length
      · rw [List.getElem?_append_left h3]
      · rw [List.getElem?_eq_none (by omega), List.getElem?_eq_none (by simp; omega)]
theorem fl_fl {F : Nat → va_E} {o q n : Nat} {L L2 L3 : List va_E} (k : Nat) (hq : q = o + k) (hk : k ≤ L.length) (hL : L.take k ++ L2 = L3) : ∀ x, x < n → fl (fl F o L) q L2 x = fl F o L3 x := by
  intro x _
  subst hq; subst hL
  unfold fl
  by_cases h1 : x < o
  · rw [if_pos (by omega), if_pos h1, if_pos h1]
  · by_cases h2 : x < o + k
    · rw [if_pos h2, if_neg h1, if_neg h1]
      simp only [List.getD_eq_getElem?_getD]
      rw [List.getElem?_append_left (by simp; omega), List.getElem?_take_of_lt (by omega)]
    · rw [if_neg h2, if_neg h1]
      simp only [List.getD_eq_getElem?_getD]
      rw [List.getElem?_append_right (by simp; omega)]
      simp only [List.length_take, Nat.min_eq_left hk]
      rw [show x - (o + k) = x - o - k by omega]
def nstL : List Cond := [.methodLinkNest "HostelBeds" 11 yX2_init "HostelBeds", .methodLinkNest "HostelBeds" 32 yX3_init "HostelBeds", .methodLinkNest "HostelBeds$Hostel" 30 yX4_init "HostelBeds", .methodLinkNest "HostelBeds$Hostel" 31 yX0_init "HostelBeds"]
/-- words that the constructors need and that are no 'good' ones -/
def NE (U : State) : Prop := va_AO "HostelBeds$Room" U ∧ va_AO "HostelBeds$Booking" U ∧ va_AO "HostelBeds$Hostel" U ∧ (∀ w ∈ nstL, va_Nw w U)
theorem NE.warm {U U' : State} (h : NE U) (hW : U.WarmedH U'.vm) : NE U' := by
  refine ⟨va_AO.moved hW.alike h.1, va_AO.moved hW.alike h.2.1, va_AO.moved hW.alike h.2.2.1, fun w hw => ?_⟩
  have h4 := h.2.2.2 w hw
  simp only [nstL, List.mem_cons, List.not_mem_nil, or_false] at hw
  rcases hw with rfl | rfl | rfl | rfl <;> exact va_Nw.warmM hW h4
def WN (cy : Nat → ClassId) (D : va_G) (B : Nat) (ek : EK) (n : Nat) (F : Nat → va_E) (U : State) : Prop := va_P D vwCl (pw B n F) U.heap ∧ va_K D vwCl (tysL cy) U ∧ U.heap.size = B + n ∧ EW B ek U U.heap ∧ NE U
def QN (D : va_G) (B n : Nat) (F : Nat → va_E) : Array Value → State → Outcome → State → Prop := fun _ st oc t => oc = .returned none ∧ va_P D vwCl (pw B n F) t.heap ∧ va_F (aB B) st t
def CTN (l : Launch) (cy : Nat → ClassId) (D : va_G) (B : Nat) (ek : EK) (y : MethodName) (b : ByteArray) (nL : Nat) (rm : Room) (mc ms : Nat) (av : List Value) (n : Nat) (F : Nat → va_E) (n' : Nat) (F' : Nat → va_E) : Prop :=
  Met l y (wsA y b nL none) rm (va_Pc av (WN cy D B ek n F)) (QN D B n' F') mc ms (aB B)

def N (p : Program) (l : Launch) (e : Env) (R : Room) (s : State) (m : MethodId) (args : Array Value) (below : List Frame) (meth : Method) (c : Code) (nL : Nat) (D : va_G) (B : Nat) (cells slots : Nat) (Q : State → Prop) (pc : Nat) (lcs : List (Nat × Value)) (st : List Value) (n : Nat) (F : Nat → va_E) : Prop :=
  ∀ (H : Heap) (locs : List Loc) (ls : Array Slot), va_P D vwCl (pw B n F) H → va_S (aB B) s.heap H locs → lv_has ls nL lcs → W p l e R s m args below meth c H locs cells slots Q (F0 m pc ls st)
section NR
variable {p : Program} {l : Launch} {e : Env} {R : Room} {s : State} {m : MethodId} {args : Array Value} {below : List Frame} {meth : Method} {c : Code} {nL : Nat} {cy : Nat → ClassId} {D : va_G} {B : Nat} {ek : EK} {own : String} {cc : ByteArray} {cells slots : Nat} {Q : State → Prop} {pc : Nat} {lcs : List (Nat × Value)} {st : List Value} {n : Nat} {F : Nat → va_E}
theorem n_iconst (C : Cx p s m args c nL cy D B ek own cc) {k : Int} {v : Int32} (hdg : decode cc pc = .ok (.iconst k, 1)) (hv : Int32.ofInt k = v) (kk : N p l e R s m args below meth c nL D B cells slots Q (pc + 1) lcs (.int v :: st) n F) : N p l e R s m args below meth c nL D B cells slots Q pc lcs (st) n F :=
  fun H locs ls hP hS hh => lv_iconst C.1 C.2.1 hdg hv (kk H locs ls hP hS hh)
theorem n_bipush (C : Cx p s m args c nL cy D B ek own cc) {k : Int} {v : Int32} (hdg : decode cc pc = .ok (.bipush k, 2)) (hv : (Int8.ofInt k).toInt32 = v) (kk : N p l e R s m args below meth c nL D B cells slots Q (pc + 2) lcs (.int v :: st) n F) : N p l e R s m args below meth c nL D B cells slots Q pc lcs (st) n F :=
  fun H locs ls hP hS hh => lv_bipush C.1 C.2.1 hdg hv (kk H locs ls hP hS hh)
theorem n_sipush (C : Cx p s m args c nL cy D B ek own cc) {k : Int} {v : Int32} (hdg : decode cc pc = .ok (.sipush k, 3)) (hv : (Int16.ofInt k).toInt32 = v) (kk : N p l e R s m args below meth c nL D B cells slots Q (pc + 3) lcs (.int v :: st) n F) : N p l e R s m args below meth c nL D B cells slots Q pc lcs (st) n F :=
  fun H locs ls hP hS hh => lv_sipush C.1 C.2.1 hdg hv (kk H locs ls hP hS hh)
theorem n_dup (C : Cx p s m args c nL cy D B ek own cc) {v : Value} (hdg : decode cc pc = .ok (.dup, 1)) (hv : v.category = 1) (kk : N p l e R s m args below meth c nL D B cells slots Q (pc + 1) lcs (v :: v :: st) n F) : N p l e R s m args below meth c nL D B cells slots Q pc lcs (v :: st) n F :=
  fun H locs ls hP hS hh => lv_dup C.1 C.2.1 hdg hv (kk H locs ls hP hS hh)
theorem n_iload_n (C : Cx p s m args c nL cy D B ek own cc) {k : Fin 4} {i : Nat} {x : Int32} (hdg : decode cc pc = .ok (.iload_n k, 1)) (hi : (k : Nat) = i) (q : Nat) (hl : lcs[q]? = some (i, .int x)) (kk : N p l e R s m args below meth c nL D B cells slots Q (pc + 1) lcs (.int x :: st) n F) : N p l e R s m args below meth c nL D B cells slots Q pc lcs (st) n F :=
  fun H locs ls hP hS hh => lv_iload_n C.1 C.2.1 hdg hi (lv_at hh q hl) (kk H locs ls hP hS hh)
theorem n_aload_n (C : Cx p s m args c nL cy D B ek own cc) {k : Fin 4} {i : Nat} {x : Nat} (hdg : decode cc pc = .ok (.aload_n k, 1)) (hi : (k : Nat) = i) (q : Nat) (hl : lcs[q]? = some (i, .ref x)) (kk : N p l e R s m args below meth c nL D B cells slots Q (pc + 1) lcs (.ref x :: st) n F) : N p l e R s m args below meth c nL D B cells slots Q pc lcs (st) n F :=
  fun H locs ls hP hS hh => lv_aload_n C.1 C.2.1 hdg hi (lv_at hh q hl) (kk H locs ls hP hS hh)
theorem n_istore_n (C : Cx p s m args c nL cy D B ek own cc) {k : Fin 4} {i : Nat} {x : Int32} (lcs' : List (Nat × Value)) (hdg : decode cc pc = .ok (.istore_n k, 1)) (hi : (k : Nat) = i) (hn : i < nL) (hl : (i, Value.int x) :: lcs.filter (fun q => !(q.1 == i) && !(q.1 + 1 == i && q.2.category == 2)) = lcs') (kk : N p l e R s m args below meth c nL D B cells slots Q (pc + 1) lcs' st n F) : N p l e R s m args below meth c nL D B cells slots Q pc lcs (.int x :: st) n F :=
  fun H locs ls hP hS hh => lv_istore_n C.1 C.2.1 hdg hi hh hn hl (fun ls2 hh2 => kk H locs ls2 hP hS hh2)
theorem n_istore (C : Cx p s m args c nL cy D B ek own cc) {i : Nat} {x : Int32} (lcs' : List (Nat × Value)) (hdg : decode cc pc = .ok (.istore i, 2)) (hn : i < nL) (hl : (i, Value.int x) :: lcs.filter (fun q => !(q.1 == i) && !(q.1 + 1 == i && q.2.category == 2)) = lcs') (kk : N p l e R s m args below meth c nL D B cells slots Q (pc + 2) lcs' st n F) : N p l e R s m args below meth c nL D B cells slots Q pc lcs (.int x :: st) n F :=
  fun H locs ls hP hS hh => lv_istore C.1 C.2.1 hdg hh hn hl (fun ls2 hh2 => kk H locs ls2 hP hS hh2)
theorem n_astore_n (C : Cx p s m args c nL cy D B ek own cc) {k : Fin 4} {i : Nat} {x : Nat} (lcs' : List (Nat × Value)) (hdg : decode cc pc = .ok (.astore_n k, 1)) (hi : (k : Nat) = i) (hn : i < nL) (hl : (i, Value.ref x) :: lcs.filter (fun q => !(q.1 == i) && !(q.1 + 1 == i && q.2.category == 2)) = lcs') (kk : N p l e R s m args below meth c nL D B cells slots Q (pc + 1) lcs' st n F) : N p l e R s m args below meth c nL D B cells slots Q pc lcs (.ref x :: st) n F :=
  fun H locs ls hP hS hh => lv_astore_n C.1 C.2.1 hdg hi hh hn hl (fun ls2 hh2 => kk H locs ls2 hP hS hh2)
theorem n_astore (C : Cx p s m args c nL cy D B ek own cc) {i : Nat} {x : Nat} (lcs' : List (Nat × Value)) (hdg : decode cc pc = .ok (.astore i, 2)) (hn : i < nL) (hl : (i, Value.ref x) :: lcs.filter (fun q => !(q.1 == i) && !(q.1 + 1 == i && q.2.category == 2)) = lcs') (kk : N p l e R s m args below meth c nL D B cells slots Q (pc + 2) lcs' st n F) : N p l e R s m args below meth c nL D B cells slots Q pc lcs (.ref x :: st) n F :=
  fun H locs ls hP hS hh => lv_astore C.1 C.2.1 hdg hh hn hl (fun ls2 hh2 => kk H locs ls2 hP hS hh2)
theorem n_iinc (C : Cx p s m args c nL cy D B ek own cc) {i k : Nat} {d : Int} {x v : Int32} (lcs' : List (Nat × Value)) (hdg : decode cc pc = .ok (.iinc i d, 3)) (hk : lcs[k]? = some (i, .int x)) (hv : x + Int32.ofInt d = v) (hn : i < nL) (hl : (i, Value.int v) :: lcs.filter (fun q => !(q.1 == i) && !(q.1 + 1 == i && q.2.category == 2)) = lcs') (kk : N p l e R s m args below meth c nL D B cells slots Q (pc + 3) lcs' st n F) : N p l e R s m args below meth c nL D B cells slots Q pc lcs st n F :=
  fun H locs ls hP hS hh => lv_iinc C.1 C.2.1 hdg hh hk hv hn hl (fun ls2 hh2 => kk H locs ls2 hP hS hh2)
theorem n_icmp_ge (C : Cx p s m args c nL cy D B ek own cc) {x y : Int32} {off : Int} {tgt : Nat} (hdg : decode cc pc = .ok (.if_icmp .ge off, 3)) (ht : (pc : Int) + off = (tgt : Int)) (kt : y ≤ x → N p l e R s m args below meth c nL D B cells slots Q tgt lcs st n F) (kf : ¬ (y ≤ x) → N p l e R s m args below meth c nL D B cells slots Q (pc + 3) lcs st n F) : N p l e R s m args below meth c nL D B cells slots Q pc lcs (.int y :: .int x :: st) n F :=
  fun H locs ls hP hS hh => lv_icmp_ge C.1 C.2.1 hdg ht (fun z => kt z H locs ls hP hS hh) (fun z => kf z H locs ls hP hS hh)
theorem n_goto (C : Cx p s m args c nL cy D B ek own cc) {off : Int} {tgt : Nat} (hdg : decode cc pc = .ok (.goto off, 3)) (ht : (pc : Int) + off = (tgt : Int)) (kk : N p l e R s m args below meth c nL D B cells slots Q tgt lcs st n F) : N p l e R s m args below meth c nL D B cells slots Q pc lcs st n F :=
  fun H locs ls hP hS hh => lv_goto C.1 C.2.1 hdg ht (kk H locs ls hP hS hh)
theorem n_sub {lcs' : List (Nat × Value)} (ks : List Nat) (hl : lv_pick lcs ks = lcs') (kk : N p l e R s m args below meth c nL D B cells slots Q pc lcs' st n F) : N p l e R s m args below meth c nL D B cells slots Q pc lcs st n F :=
  fun H locs ls hP hS hh => kk H locs ls hP hS (lv_sub hh ks hl)
theorem n_ext {F' : Nat → va_E} (hs : ∀ x, x < n → F x = F' x) (kk : N p l e R s m args below meth c nL D B cells slots Q pc lcs st n F') : N p l e R s m args below meth c nL D B cells slots Q pc lcs st n F :=
  fun H locs ls hP hS hh => kk H locs ls (pw_ext hs ▸ hP) hS hh
theorem n_exq {F' : Nat → va_E} (hs : ∀ x, x < n → ∀ a H, va_at D vwCl (a, F x) H → va_at D vwCl (a, F' x) H) (kk : N p l e R s m args below meth c nL D B cells slots Q pc lcs st n F') : N p l e R s m args below meth c nL D B cells slots Q pc lcs st n F := by
  intro H locs ls hP hS hh
  refine kk H locs ls (fun k q hq => ?_) hS hh
  have hk : k < n := by
    have := (List.getElem?_eq_some_iff.mp hq).1
    simpa [pw] using this
  rw [pw_at hk] at hq
  cases hq
  exact hs k hk _ _ (hP k _ (pw_at hk))
theorem n_widen {k z : Nat} (h1 : cells ≤ k) (h2 : slots ≤ z) (kk : N p l e R s m args below meth c nL D B k z Q pc lcs st n F) : N p l e R s m args below meth c nL D B cells slots Q pc lcs st n F :=
  fun H locs ls hP hS hh => W.widen (k := k) (n := z) h1 h2 (kk H locs ls hP hS hh)
theorem n_size {T : State} {H : Heap} {locs : List Loc} (hB : B ≤ s.heap.size) (hsz : s.heap.size + cells = B + n) (hP : va_P D vwCl (pw B n F) H) (hS : va_S (aB B) s.heap H locs) (hT : T.heap = H) {locs9 : List Loc} (X9 : Stand p l e R s m args below meth c T locs9 cells slots) : H.size = B + n := by
  have h1 := X9.heapSize
  rw [hT] at h1
  have h2 : B + n ≤ H.size := by
    by_cases hn : n = 0
    · have := hS.1
      omega
    · have h3 := (hP (n - 1) _ (pw_at (by omega))).lt
      simp only at h3
      omega
  omega
theorem n_get (C : Cx p s m args c nL cy D B ek own cc) {C1 : String} {T : u_T} {N1 ci index : Nat} (hin : ∀ w ∈ u_ws C1 T N1, w ∈ lw_g) (o : Nat) (ho : o < n) {fs : List Value} (he : F o = .inr (ci, fs)) (hc : vwCl[ci]? = some (C1, T, N1)) (k : Nat) (hk : k < N1) (hlink : Cond.fieldLink own index (T k).1 (T k).2.1 (T k).2.2.1 ∈ lw_g) {v : Value} (hv : fs[k]? = some v) (hdg : decode cc pc = .ok (.getfield index, 3)) (kk : N p l e R s m args below meth c nL D B cells slots Q (pc + 3) lcs (v :: st) n F) : N p l e R s m args below meth c nL D B cells slots Q pc lcs (.ref (B + o) :: st) n F :=
  fun H locs ls hP hS hh => va_get C.1 C.2.1 C.2.2.2.2.1 hin C.2.2.2.1 C.2.2.2.2.2.1 hP o (pw_is ho he) hc k hk (C.2.2.2.2.1 _ hlink) (fun _ h => h) hv hdg (kk H locs ls hP hS hh)
theorem n_put (C : Cx p s m args c nL cy D B ek own cc) {C1 : String} {T : u_T} {N1 ci index : Nat} (hin : ∀ w ∈ u_ws C1 T N1, w ∈ lw_g) (ty0 : Nat → FieldType) (hty : ∀ k, k < N1 → parseFieldDescriptor (T k).2.2.1 = some (ty0 k)) (hnm : ∀ a, a < N1 → ∀ b, b < N1 → a ≠ b → (T a).2.1 ≠ (T b).2.1) (o : Nat) (ho : o < n) {fs : List Value} (he : F o = .inr (ci, fs)) (hc : vwCl[ci]? = some (C1, T, N1)) (k : Nat) (hk : k < N1) (hlink : Cond.fieldLink own index (T k).1 (T k).2.1 (T k).2.2.1 ∈ lw_g) (hfin : (T k).2.2.2 = false) {ty : FieldType} {v : Value} (hd : parseFieldDescriptor (T k).2.2.1 = some ty) (hn : narrow ty v = v) (hfit : fits ty v = true) (hl : k < fs.length) (hdg : decode cc pc = .ok (.putfield index, 3)) {F' : Nat → va_E} (hs : ∀ x, x < n → fu F o (.inr (ci, fs.set k v)) x = F' x) (kk : N p l e R s m args below meth c nL D B cells slots Q (pc + 3) lcs st n F') : N p l e R s m args below meth c nL D B cells slots Q pc lcs (v :: .ref (B + o) :: st) n F :=
  fun H locs ls hP hS hh => va_put C.1 C.2.1 C.2.2.2.2.1 hin ty0 hty hnm C.2.2.2.1 C.2.2.2.2.2.1 hP pw_D hS o (pw_is ho he) hc k hk (C.2.2.2.2.1 _ hlink) (fun _ h => h) hfin hd hn hfit hl hdg (fun H1 locs1 hP1 _ hS1 => kk H1 locs1 ls (pw_ext hs ▸ pw_set ho ▸ hP1) hS1 hh)
theorem n_putF (C : Cx p s m args c nL cy D B ek own cc) {C1 : String} {T : u_T} {N1 ci index : Nat} (hin : ∀ w ∈ u_ws C1 T N1, w ∈ lw_g) (ty0 : Nat → FieldType) (hty : ∀ k, k < N1 → parseFieldDescriptor (T k).2.2.1 = some (ty0 k)) (hnm : ∀ a, a < N1 → ∀ b, b < N1 → a ≠ b → (T a).2.1 ≠ (T b).2.1) (o : Nat) (ho : o < n) {fs : List Value} (he : F o = .inr (ci, fs)) (hc : vwCl[ci]? = some (C1, T, N1)) (k : Nat) (hk : k < N1) (hlink : Cond.fieldLink own index (T k).1 (T k).2.1 (T k).2.2.1 ∈ lw_g) (hfin : (T k).2.2.2 = true) (hin2 : meth.name = "<init>") (hdecl : (T k).1 = own) {ty : FieldType} {v : Value} (hd : parseFieldDescriptor (T k).2.2.1 = some ty) (hn : narrow ty v = v) (hfit : fits ty v = true) (hl : k < fs.length) (hdg : decode cc pc = .ok (.putfield index, 3)) {F' : Nat → va_E} (hs : ∀ x, x < n → fu F o (.inr (ci, fs.set k v)) x = F' x) (kk : N p l e R s m args below meth c nL D B cells slots Q (pc + 3) lcs st n F') : N p l e R s m args below meth c nL D B cells slots Q pc lcs (v :: .ref (B + o) :: st) n F :=
  fun H locs ls hP hS hh => va_putF C.1 C.2.1 C.2.2.2.2.1 hin ty0 hty hnm C.2.2.2.1 C.2.2.2.2.2.1 hP pw_D hS o (pw_is ho he) hc k hk (C.2.2.2.2.1 _ hlink) (fun _ h => h) hfin hin2 hdecl hd hn hfit hl hdg (fun H1 locs1 hP1 _ hS1 => kk H1 locs1 ls (pw_ext hs ▸ pw_set ho ▸ hP1) hS1 hh)
theorem n_alen (C : Cx p s m args c nL cy D B ek own cc) (o t0 : Nat) (ho : o < n) {cA : ClassId} {x : vp_A} (ha : F o = .inl (cA, x)) {ty : FieldType} (ht : (tysL cy)[t0]? = some (cA, ty)) {v : Int32} (hv : Int32.ofNat x.1 = v) (hdg : decode cc pc = .ok (.arraylength, 1)) (kk : N p l e R s m args below meth c nL D B cells slots Q (pc + 1) lcs (.int v :: st) n F) : N p l e R s m args below meth c nL D B cells slots Q pc lcs (.ref (B + o) :: st) n F :=
  fun H locs ls hP hS hh => va_alen C.1 C.2.1 C.2.2.2.2.2.1 hP o t0 (pw_is ho ha) ht hv hdg (kk H locs ls hP hS hh)
theorem n_iast (C : Cx p s m args c nL cy D B ek own cc) (o : Nat) (ho : o < n) {z : Nat} {f : Nat → Int32} (ha : F o = .inl (cy 0, z, .inl f)) {i x : Int32} (hin : vp_in i z) (hdg : decode cc pc = .ok (.iastore, 1)) {F' : Nat → va_E} (hs : ∀ y, y < n → fu F o (.inl (cy 0, z, .inl (upd f i.toNatClampNeg x))) y = F' y) (kk : N p l e R s m args below meth c nL D B cells slots Q (pc + 1) lcs st n F') : N p l e R s m args below meth c nL D B cells slots Q pc lcs (.int x :: .int i :: .ref (B + o) :: st) n F :=
  fun H locs ls hP hS hh => va_iast C.1 C.2.1 C.2.2.2.2.2.1 hP pw_D hS o 0 (pw_is ho ha) rfl hin hdg (fun H1 locs1 hP1 _ hS1 => kk H1 locs1 ls (pw_ext hs ▸ pw_set ho ▸ hP1) hS1 hh)
theorem n_astq (C : Cx p s m args c nL cy D B ek own cc) (o t0 o2 ci : Nat) (ho : o < n) (ho2 : o2 < n) {cA : ClassId} {r : vw_C} {z : Nat} {vs : List Value} {f : Nat → Option Nat} (ha : F o = .inl (cA, z, .inr (.inr (.inr (.inr f))))) (ht : (tysL cy)[t0]? = some (cA, .object r.1)) (hv : F o2 = .inr (ci, vs)) (hc : vwCl[ci]? = some r) {i : Int32} (hin : vp_in i z) (hdg : decode cc pc = .ok (.aastore, 1)) {F' : Nat → va_E} (hs : ∀ y, y < n → fu F o (.inl (cA, z, .inr (.inr (.inr (.inr (va_up f i.toNatClampNeg (some (B + o2)))))))) y = F' y) (kk : N p l e R s m args below meth c nL D B cells slots Q (pc + 1) lcs st n F') : N p l e R s m args below meth c nL D B cells slots Q pc lcs (.ref (B + o2) :: .int i :: .ref (B + o) :: st) n F :=
  fun H locs ls hP hS hh => va_astq C.1 C.2.1 C.2.2.2.2.2.1 hP pw_D hS o t0 o2 ci (pw_is ho ha) ht (pw_is ho2 hv) hc hin hdg (fun H1 locs1 hP1 _ hS1 => kk H1 locs1 ls (pw_ext hs ▸ pw_set ho ▸ hP1) hS1 hh)
theorem n_new (C : Cx p s m args c nL cy D B ek own cc) {C1 : String} {T : u_T} {N1 ci index : Nat} (hin : ∀ w ∈ u_ws C1 T N1, w ∈ lw_g) (ty : Nat → FieldType) (hty : ∀ k, k < N1 → parseFieldDescriptor (T k).2.2.1 = some (ty k)) (hcl : Cond.classLink own index C1 ∈ lw_g) (hinst : Cond.instantiable C1 N1 ∈ lw_g) (hini : Cond.initialized C1 ∈ lw_g) (hc : vwCl[ci]? = some (C1, T, N1)) {fs : List Value} (hfs : ∀ j, j < N1 → defaultValue (ty j) = vp_V fs j) (hsz : s.heap.size + cells = B + n) (hcells : cells + 1 ≤ R.cells) (hslots : slots + N1 ≤ R.slots) (hdg : decode cc pc = .ok (.new index, 3)) {F' : Nat → va_E} (hs : ∀ x, x < n + 1 → fu F n (.inr (ci, fs)) x = F' x) (kk : N p l e R s m args below meth c nL D B (cells + 1) (slots + N1) Q (pc + 3) lcs (.ref (B + n) :: st) (n + 1) F') : N p l e R s m args below meth c nL D B cells slots Q pc lcs st n F := by
  intro H locs ls hP hS hh T9 hT X9
  have hz : H.size = B + n := n_size C.2.2.2.2.2.2.1 hsz hP hS hT X9
  have hts := C.2.2.2.2.1
  have hKn := C.2.2.2.2.2.1.1 ci _ hc
  have key : W p l e R s m args below meth c H locs cells slots Q (F0 m pc ls st) := by
    refine W.newcK C.1 C.2.1 C.2.2.2.1 (hts _ hcl) (hts _ hinst) (hts _ hini) rfl hdg hcells hslots hKn.2.1 hz (fun H1 kC hkC e1 z1 o1 => ?_)
    have hS1 := hS.1
    refine kk H1 locs ls ?_ ⟨by omega, fun x h1 h2 => (o1 x (by omega)).trans (hS.2.1 x h1 h2), hS.2.2⟩ hh
    rw [← pw_ext hs, ← pw_push]
    have hk : ∀ (k : Nat) (x : Nat × va_E), (pw B n F)[k]? = some x → H1[x.1]? = H[x.1]? := fun k x hx => o1 x.1 (hz ▸ (hP k x hx).lt)
    refine (hP.kept hk).app (fun k x hx => ?_)
    have hz1 : k < 1 := (List.getElem?_eq_some_iff.mp hx).1
    rw [show k = 0 by omega] at hx
    cases hx
    exact ⟨_, hc, (u_born ty hts hin hKn hkC e1 hty).to hfs⟩
  exact key T9 hT X9
theorem n_newa (C : Cx p s m args c nL cy D B ek own cc) {atype : ArrayType} (harr : Cond.arrayClass (newarray.typeOf atype) ∈ lw_g) {cA0 : ClassId} (hcy : s.vm.findClass ("[" ++ (newarray.typeOf atype).toString) = some cA0) {k : Int32} {z : Nat} {a0 : vp_A} (ha : vp_cell cA0 a0 = arrV cA0 z (fun _ => defaultValue (newarray.typeOf atype))) (hn : ¬ k < 0) (hN : k.toNatClampNeg = z) (hbytes : z * componentBytes (newarray.typeOf atype) ≤ 536870912) (hsz : s.heap.size + cells = B + n) (hcells : cells + 1 ≤ R.cells) (hslots : slots + z ≤ R.slots) (hdg : decode cc pc = .ok (.newarray atype, 2)) {F' : Nat → va_E} (hs : ∀ x, x < n + 1 → fu F n (.inl (cA0, a0)) x = F' x) (kk : N p l e R s m args below meth c nL D B (cells + 1) (slots + z) Q (pc + 2) lcs (.ref (B + n) :: st) (n + 1) F') : N p l e R s m args below meth c nL D B cells slots Q pc lcs (.int k :: st) n F := by
  intro H locs ls hP hS hh T9 hT X9
  have hz : H.size = B + n := n_size C.2.2.2.2.2.2.1 hsz hP hS hT X9
  have hts := C.2.2.2.2.1
  have key : W p l e R s m args below meth c H locs cells slots Q (F0 m pc ls (.int k :: st)) := by
    refine va_newaK C.1 C.2.1 (hts _ harr) rfl hdg rfl hn hN hbytes hcells hslots hz (fun H1 cA e1 z1 o1 hAr hNm => ?_)
    have hS1 := hS.1
    refine kk H1 locs ls ?_ ⟨by omega, fun x h1 h2 => (o1 x (by omega)).trans (hS.2.1 x h1 h2), hS.2.2⟩ hh
    rw [← pw_ext hs, ← pw_push]
    have hk : ∀ (k : Nat) (x : Nat × va_E), (pw B n F)[k]? = some x → H1[x.1]? = H[x.1]? := fun k x hx => o1 x.1 (hz ▸ (hP k x hx).lt)
    refine (hP.kept hk).app (fun k x hx => ?_)
    have hz1 : k < 1 := (List.getElem?_eq_some_iff.mp hx).1
    rw [show k = 0 by omega] at hx
    cases hx
    show H1[B + n]? = some (vp_cell _ _)
    have hcA : cA = cA0 := Option.some.inj (hNm.symm.trans hcy)
    rw [ha, ← hcA]
    exact e1
  exact key T9 hT X9
theorem n_newq (C : Cx p s m args c nL cy D B ek own cc) {C1 : String} {index : Nat} (hcl : Cond.classLink own index C1 ∈ lw_g) (hover : va_AO C1 s) {cA0 : ClassId} (hcy : s.vm.findClass ("[" ++ (FieldType.object C1).toString) = some cA0) {k : Int32} {z : Nat} (hn : ¬ k < 0) (hN : k.toNatClampNeg = z) (hbytes : z * 4 ≤ 536870912) (hsz : s.heap.size + cells = B + n) (hcells : cells + 1 ≤ R.cells) (hslots : slots + z ≤ R.slots) (hdg : decode cc pc = .ok (.anewarray index, 3)) {F' : Nat → va_E} (hs : ∀ x, x < n + 1 → fu F n (.inl (cA0, z, .inr (.inr (.inr (.inr (fun _ => none)))))) x = F' x) (kk : N p l e R s m args below meth c nL D B (cells + 1) (slots + z) Q (pc + 3) lcs (.ref (B + n) :: st) (n + 1) F') : N p l e R s m args below meth c nL D B cells slots Q pc lcs (.int k :: st) n F := by
  intro H locs ls hP hS hh T9 hT X9
  have hz : H.size = B + n := n_size C.2.2.2.2.2.2.1 hsz hP hS hT X9
  have hts := C.2.2.2.2.1
  subst hN
  have key : W p l e R s m args below meth c H locs cells slots Q (F0 m pc ls (.int k :: st)) := by
    refine W.anew C.1 C.2.1 C.2.2.2.1 (hts _ hcl) (va_AO.use hover) rfl hdg rfl hn hbytes hcells hslots (fun cA kA comp f1 f2 f3 f4 => ?_)
    generalize hH1 : H.push ({ cls := cA, slots := Array.replicate k.toNatClampNeg .null, vm := .none } : Cell) = H1
    have z1 : H1.size = H.size + 1 := by rw [← hH1, Array.size_push]
    have e1 : H1[H.size]? = some (arrV cA k.toNatClampNeg (fun _ => .null)) := by rw [← hH1, Array.getElem?_push_size, ← arrV_new]
    have o1 : ∀ q : Nat, q < H.size → H1[q]? = H[q]? := fun q hq => by rw [← hH1, Array.getElem?_push, if_neg (Nat.ne_of_lt hq)]
    rw [hz] at e1 o1 ⊢
    have hS1 := hS.1
    refine kk H1 locs ls ?_ ⟨by omega, fun x h1 h2 => (o1 x (by omega)).trans (hS.2.1 x h1 h2), hS.2.2⟩ hh
    rw [← pw_ext hs, ← pw_push]
    have hk : ∀ (k : Nat) (x : Nat × va_E), (pw B n F)[k]? = some x → H1[x.1]? = H[x.1]? := fun k x hx => o1 x.1 (hz ▸ (hP k x hx).lt)
    refine (hP.kept hk).app (fun k x hx => ?_)
    have hz1 : k < 1 := (List.getElem?_eq_some_iff.mp hx).1
    rw [show k = 0 by omega] at hx
    cases hx
    show H1[B + n]? = some (vp_cell _ _)
    have hcA : cA = cA0 := Option.some.inj (f1.symm.trans hcy)
    rw [vp_cell_q, ← hcA]
    exact e1
  exact key T9 hT X9
theorem n_obj (C : Cx p s m args c nL cy D B ek own cc) {idx : Nat} {a : Nat} (hlink : Cond.methodLink own idx Lib.objectInit ∈ lw_g) (hinst : Cond.instanceMethod Lib.objectInit ∈ lw_g) (hcode : Cond.code Lib.objectInit ⟨#[0xb1]⟩ 1 none ∈ lw_g) (hfr : 1 ≤ R.frames) (hlo : (st.map fun v => v.category).sum + 12 ≤ R.locals) (hdg : decode cc pc = .ok (.invokespecial idx, 3)) (kk : N p l e R s m args below meth c nL D B cells slots Q (pc + 3) lcs st n F) : N p l e R s m args below meth c nL D B cells slots Q pc lcs (.ref a :: st) n F := by
  intro H locs ls hP hS hh
  have hts := C.2.2.2.2.1
  refine W.objInit C.1 C.2.1 C.2.2.2.1 (hts _ hlink) (hts _ hinst) (hts _ hcode) rfl (by rw [C.2.2.1]; exact hh.1) rfl hdg hfr (by simpa [JFrame.monitorRoom, F0] using hlo) ?_
  exact W.eq (g2 := F0 m (pc + 3) ls st) rfl (kk H locs ls hP hS hh)
theorem n_callN (C : Cx p s m args c nL cy D B ek own cc) {y : MethodName} {bytes : ByteArray} {maxL index : Nat} {rm : Room} {mc ms n' o : Nat} {rest : List Value} {F1 F' : Nat → va_E} {host : String} (hnst : va_Nw (.methodLinkNest own index y host) s) (hy1 : y.name = "<init>") (hE : NE s) (hM : CTN l cy D B ek y bytes maxL rm mc ms [.ref (B + o)] n F n' F1) (hrc : rm.cells = mc) (hrs : rm.slots = ms) (hR : rm.frames + 1 ≤ R.frames ∧ 8 + (maxL + 11) + rm.locals ≤ R.locals) (hcode : Cond.code y bytes maxL none ∈ lw_g) (hini : Cond.initialized y.cls ∈ lw_g) (hy : y.cls ≠ "java/lang/invoke/MethodHandle" ∧ y.cls ≠ "java/lang/invoke/VarHandle") (hlen : (parseMethodDescriptor y.desc).map (fun d => d.parameters.length) = some 0) (hinst : Cond.instanceMethod y ∈ lw_g) (hstk : st = .ref (B + o) :: rest) (hW : (rest.map fun v => v.category).sum ≤ 8) (hsz : s.heap.size + cells = B + n) (hdg : decode cc pc = .ok (.invokespecial index, 3)) (hcs : cells + mc ≤ R.cells ∧ slots + ms ≤ R.slots) (hs : ∀ x, x < n' → F1 x = F' x) (kk : N p l e R s m args below meth c nL D B (cells + mc) (slots + ms) Q (pc + 3) lcs rest n' F') : N p l e R s m args below meth c nL D B cells slots Q pc lcs st n F := by
  intro H locs ls hP hS hh T hT XS
  have hz : H.size = B + n := n_size C.2.2.2.2.2.2.1 hsz hP hS hT XS
  have hts := C.2.2.2.2.1
  have hK := C.2.2.2.2.2.1
  have hws : ∀ w ∈ wsA y bytes maxL none, ∀ (a9 : Array Value) (U : State), s.WarmedH U.vm → w.before a9 U = true := by
    intro w hw a9 U hW9
    rcases List.mem_cons.mp hw with rfl | hw
    · exact word_at hW9 (good_of_word (lw_g_good _ hcode)) (hts _ hcode)
    · exact word_at hW9 (good_of_word (lw_g_good _ hw)) (hts _ hw)
  have hlen9 : ∀ sig, parseMethodDescriptor y.desc = some sig → ([] : List Value).length = sig.parameters.length := by
    intro sig h9
    rw [h9] at hlen
    exact (Option.some.inj hlen).symm
  have run := va_runIN (e := e) (locs := locs) (meth := meth) (below := below) (g := F0 m pc ls st) (rest := rest) (As := []) ⟨C.1, C.2.1, C.2.2.1, C.2.2.2.1, hts⟩ hM (n := 0) ⟨⟨⟨hrc, hrs, hR.1, hR.2, hws, List.mem_cons_self⟩, hts _ hcode, hts _ hini, hy, hlen9, va_Nw.use rfl hnst⟩, hy1, hts _ hinst⟩ ⟨fun a U g mk q => by obtain ⟨q0, qP, qK, qS, qE, qN⟩ := q; exact ⟨q0, qP, va_K.moved (u := U) (U := U.calling g mk a) (Vm.Alike.refl U.vm) qK, qS, qE.warm (U' := U.calling g mk a) (State.WarmedH.refl U) (Nat.le_refl _) (fun _ _ _ => rfl), qN.warm (U' := U.calling g mk a) (State.WarmedH.refl U)⟩, fun U hU hW9 => ⟨rfl, by rw [hU]; exact hP, va_K.moved hW9.alike hK, by rw [hU]; exact hz, by rw [hU]; exact C.2.2.2.2.2.2.2.warm hW9 hS.1 hS.2.1, hE.warm hW9⟩⟩ rfl rfl hh.1 hstk (lv_room hW) hdg (cells := cells) (slots := slots) hcs
  obtain ⟨v9, st0, t, T', L, h0, X', hL, e1, e2, ⟨hv, hP', hF⟩, hg⟩ := run T hT XS
  cases hv
  obtain ⟨t2, a1, b1⟩ := kk T'.heap (locs ++ L) ls (pw_ext hs ▸ (by rw [e1]; exact hP')) ⟨Nat.le_trans hS.1 (by rw [e1, ← h0]; exact hF.1), fun q h1 h2 => by rw [e1, hF.2 q (by rw [h0]; exact Nat.lt_of_lt_of_le h1 hS.1) h2, h0]; exact hS.2.1 q h1 h2, fun q hq => (List.mem_append.mp hq).elim (hS.2.2 q) (hL q)⟩ hh T' rfl X'
  exact ⟨t2, hg t2 a1, b1⟩
theorem n_callI (C : Cx p s m args c nL cy D B ek own cc) {y : MethodName} {bytes : ByteArray} {maxL index : Nat} {rm : Room} {mc ms n' o : Nat} {rest : List Value} {F1 F' : Nat → va_E} (hlink : Cond.methodLink own index y ∈ lw_g) (hy1 : y.name = "<init>") (hE : NE s) (hM : CTN l cy D B ek y bytes maxL rm mc ms [.ref (B + o)] n F n' F1) (hrc : rm.cells = mc) (hrs : rm.slots = ms) (hR : rm.frames + 1 ≤ R.frames ∧ 8 + (maxL + 11) + rm.locals ≤ R.locals) (hcode : Cond.code y bytes maxL none ∈ lw_g) (hini : Cond.initialized y.cls ∈ lw_g) (hy : y.cls ≠ "java/lang/invoke/MethodHandle" ∧ y.cls ≠ "java/lang/invoke/VarHandle") (hlen : (parseMethodDescriptor y.desc).map (fun d => d.parameters.length) = some 0) (hinst : Cond.instanceMethod y ∈ lw_g) (hstk : st = .ref (B + o) :: rest) (hW : (rest.map fun v => v.category).sum ≤ 8) (hsz : s.heap.size + cells = B + n) (hdg : decode cc pc = .ok (.invokespecial index, 3)) (hcs : cells + mc ≤ R.cells ∧ slots + ms ≤ R.slots) (hs : ∀ x, x < n' → F1 x = F' x) (kk : N p l e R s m args below meth c nL D B (cells + mc) (slots + ms) Q (pc + 3) lcs rest n' F') : N p l e R s m args below meth c nL D B cells slots Q pc lcs st n F := by
  intro H locs ls hP hS hh T hT XS
  have hz : H.size = B + n := n_size C.2.2.2.2.2.2.1 hsz hP hS hT XS
  have hts := C.2.2.2.2.1
  have hK := C.2.2.2.2.2.1
  have hws : ∀ w ∈ wsA y bytes maxL none, ∀ (a9 : Array Value) (U : State), s.WarmedH U.vm → w.before a9 U = true := by
    intro w hw a9 U hW9
    rcases List.mem_cons.mp hw with rfl | hw
    · exact word_at hW9 (good_of_word (lw_g_good _ hcode)) (hts _ hcode)
    · exact word_at hW9 (good_of_word (lw_g_good _ hw)) (hts _ hw)
  have hlen9 : ∀ sig, parseMethodDescriptor y.desc = some sig → ([] : List Value).length = sig.parameters.length := by
    intro sig h9
    rw [h9] at hlen
    exact (Option.some.inj hlen).symm
  have run := va_runI (e := e) (locs := locs) (meth := meth) (below := below) (g := F0 m pc ls st) (rest := rest) (As := []) ⟨C.1, C.2.1, C.2.2.1, C.2.2.2.1, hts⟩ hM (n := 0) ⟨⟨hrc, hrs, hR.1, hR.2, hws, List.mem_cons_self, hts _ hcode, hts _ hini, hy, hlen9, hts _ hlink⟩, hy1, hts _ hinst⟩ ⟨fun a U g mk q => by obtain ⟨q0, qP, qK, qS, qE, qN⟩ := q; exact ⟨q0, qP, va_K.moved (u := U) (U := U.calling g mk a) (Vm.Alike.refl U.vm) qK, qS, qE.warm (U' := U.calling g mk a) (State.WarmedH.refl U) (Nat.le_refl _) (fun _ _ _ => rfl), qN.warm (U' := U.calling g mk a) (State.WarmedH.refl U)⟩, fun U hU hW9 => ⟨rfl, by rw [hU]; exact hP, va_K.moved hW9.alike hK, by rw [hU]; exact hz, by rw [hU]; exact C.2.2.2.2.2.2.2.warm hW9 hS.1 hS.2.1, hE.warm hW9⟩⟩ rfl rfl hh.1 hstk (lv_room hW) hdg (cells := cells) (slots := slots) hcs
  obtain ⟨v9, st0, t, T', L, h0, X', hL, e1, e2, ⟨hv, hP', hF⟩, hg⟩ := run T hT XS
  cases hv
  obtain ⟨t2, a1, b1⟩ := kk T'.heap (locs ++ L) ls (pw_ext hs ▸ (by rw [e1]; exact hP')) ⟨Nat.le_trans hS.1 (by rw [e1, ← h0]; exact hF.1), fun q h1 h2 => by rw [e1, hF.2 q (by rw [h0]; exact Nat.lt_of_lt_of_le h1 hS.1) h2, h0]; exact hS.2.1 q h1 h2, fun q hq => (List.mem_append.mp hq).elim (hS.2.2 q) (hL q)⟩ hh T' rfl X'
  exact ⟨t2, hg t2 a1, b1⟩
theorem n_callV (C : Cx p s m args c nL cy D B ek own cc) {y : MethodName} {bytes : ByteArray} {maxL index : Nat} {rm : Room} {mc ms n' o : Nat} {rest : List Value} {F1 F' : Nat → va_E} {C1 : String} {T : u_T} {N1 ci : Nat} {fs : List Value} (hlink : Cond.methodLink own index y ∈ lw_g) (hsel : Cond.selects C1 y y ∈ lw_g) (he : F o = .inr (ci, fs)) (ho : o < n) (hc : vwCl[ci]? = some (C1, T, N1)) (hE : NE s) (hM : CTN l cy D B ek y bytes maxL rm mc ms [.ref (B + o)] n F n' F1) (hrc : rm.cells = mc) (hrs : rm.slots = ms) (hR : rm.frames + 1 ≤ R.frames ∧ 8 + (maxL + 11) + rm.locals ≤ R.locals) (hcode : Cond.code y bytes maxL none ∈ lw_g) (hini : Cond.initialized y.cls ∈ lw_g) (hy : y.cls ≠ "java/lang/invoke/MethodHandle" ∧ y.cls ≠ "java/lang/invoke/VarHandle") (hlen : (parseMethodDescriptor y.desc).map (fun d => d.parameters.length) = some 0) (hinst : Cond.instanceMethod y ∈ lw_g) (hstk : st = .ref (B + o) :: rest) (hW : (rest.map fun v => v.category).sum ≤ 8) (hsz : s.heap.size + cells = B + n) (hdg : decode cc pc = .ok (.invokevirtual index, 3)) (hcs : cells + mc ≤ R.cells ∧ slots + ms ≤ R.slots) (hs : ∀ x, x < n' → F1 x = F' x) (kk : N p l e R s m args below meth c nL D B (cells + mc) (slots + ms) Q (pc + 3) lcs rest n' F') : N p l e R s m args below meth c nL D B cells slots Q pc lcs st n F := by
  intro H locs ls hP hS hh T hT XS
  have hz : H.size = B + n := n_size C.2.2.2.2.2.2.1 hsz hP hS hT XS
  have hts := C.2.2.2.2.1
  have hK := C.2.2.2.2.2.1
  have hws : ∀ w ∈ wsA y bytes maxL none, ∀ (a9 : Array Value) (U : State), s.WarmedH U.vm → w.before a9 U = true := by
    intro w hw a9 U hW9
    rcases List.mem_cons.mp hw with rfl | hw
    · exact word_at hW9 (good_of_word (lw_g_good _ hcode)) (hts _ hcode)
    · exact word_at hW9 (good_of_word (lw_g_good _ hw)) (hts _ hw)
  have hlen9 : ∀ sig, parseMethodDescriptor y.desc = some sig → ([] : List Value).length = sig.parameters.length := by
    intro sig h9
    rw [h9] at hlen
    exact (Option.some.inj hlen).symm
  have run := va_runV (e := e) (locs := locs) (meth := meth) (below := below) (g := F0 m pc ls st) (rest := rest) (As := []) ⟨C.1, C.2.1, C.2.2.1, C.2.2.2.1, hts⟩ hM (n := 0) ⟨⟨hrc, hrs, hR.1, hR.2, hws, List.mem_cons_self, hts _ hcode, hts _ hini, hy, hlen9, hts _ hlink⟩, hts _ hinst, hts _ hsel⟩ ⟨fun a U g mk q => by obtain ⟨q0, qP, qK, qS, qE, qN⟩ := q; exact ⟨q0, qP, va_K.moved (u := U) (U := U.calling g mk a) (Vm.Alike.refl U.vm) qK, qS, qE.warm (U' := U.calling g mk a) (State.WarmedH.refl U) (Nat.le_refl _) (fun _ _ _ => rfl), qN.warm (U' := U.calling g mk a) (State.WarmedH.refl U)⟩, va_recv hK hP hc (pw_is ho he), fun U hU hW9 => ⟨rfl, by rw [hU]; exact hP, va_K.moved hW9.alike hK, by rw [hU]; exact hz, by rw [hU]; exact C.2.2.2.2.2.2.2.warm hW9 hS.1 hS.2.1, hE.warm hW9⟩⟩ rfl rfl hh.1 hstk (lv_room hW) hdg (cells := cells) (slots := slots) hcs
  obtain ⟨v9, st0, t, T', L, h0, X', hL, e1, e2, ⟨hv, hP', hF⟩, hg⟩ := run T hT XS
  cases hv
  obtain ⟨t2, a1, b1⟩ := kk T'.heap (locs ++ L) ls (pw_ext hs ▸ (by rw [e1]; exact hP')) ⟨Nat.le_trans hS.1 (by rw [e1, ← h0]; exact hF.1), fun q h1 h2 => by rw [e1, hF.2 q (by rw [h0]; exact Nat.lt_of_lt_of_le h1 hS.1) h2, h0]; exact hS.2.1 q h1 h2, fun q hq => (List.mem_append.mp hq).elim (hS.2.2 q) (hL q)⟩ hh T' rfl X'
  exact ⟨t2, hg t2 a1, b1⟩
end NR
theorem n_vret {p : Program} {l : Launch} {e : Env} {R : Room} {s : State} {m : MethodId} {args : Array Value} {below : List Frame} {meth : Method} {c : Code} {nL : Nat} {cy : Nat → ClassId} {D : va_G} {B : Nat} {ek : EK} {own : String} {cc : ByteArray} {pc : Nat} {lcs : List (Nat × Value)} {n : Nat} {F : Nat → va_E} (C : Cx p s m args c nL cy D B ek own cc) {mc ms : Nat} (hr : meth.sig.returnType = none) (hlocks : meth.locks = false) (hdg : decode cc pc = .ok (.return_, 1)) : N p l e R s m args below meth c nL D B mc ms (MQ below (QN D B n F) args s mc ms (aB B)) pc lcs [] n F :=
  fun H locs ls hP hS hh => W.vret C.1 C.2.1 hr (fun t ht hW => ⟨rfl, by rw [ht]; exact hP, hS.F ht⟩) hS.2.2 hdg hlocks
theorem met_N {l : Launch} {y : MethodName} {b : ByteArray} {nL : Nat} {rm : Room} {mc ms : Nat} {av : List Value} {cy : Nat → ClassId} {D : va_G} {B : Nat} {ek : EK} {own : String} {n n' : Nat} {F F' : Nat → va_E} (hy : plainName y.cls = true) (hown : y.cls = own) (hlen : (lg_sl av).length ≤ nL)
    (body : ∀ p e s m args below meth c, Cx p s m args c nL cy D B ek own b → NE s → s.heap.size = B + n → meth.name = y.name → meth.sig.returnType = none → meth.locks = false → N p l e rm s m args below meth c nL D B 0 0 (MQ below (QN D B n' F') args s mc ms (aB B)) 0 (lv_args 0 av) [] n F) : CTN l cy D B ek y b nL rm mc ms av n F n' F' := by
  refine Met.ofW (cc := b) (maxL := nL) (ret := none) hy rfl ?_
  intro p e s m args below meth c s₁ Bd hml hv
  obtain ⟨rfl, hP, hK, hB, hE, hNE⟩ := hv
  have hts : ∀ w ∈ lw_g, w.before av.toArray s = true := fun w hw => atoms_spec (ws := wsA y b nL none) Bd.pre w (List.mem_cons_of_mem _ hw)
  have hown9 : s.vm.findClass own = some m.cls := hown ▸ findClass_of_methodNamed Bd.named
  have k := body p e s m av.toArray below meth c ⟨Bd.exec, Bd.bytes, hml, hown9, hts, hK, by rw [hB]; exact Nat.le_add_right _ _, hE⟩ hNE hB (name_of_methodNamed Bd.named Bd.method).1 Bd.returns Bd.notSynchronized
  have hl := lv_entry av (n := nL) hlen
  rw [lg_entry_eq]
  exact k s.heap [] _ hP va_S.rf hl
