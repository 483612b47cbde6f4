theorem cast_E {a b : String} (h : (a = b ∧ a ∈ excL) ∨ (a = "[B" ∧ b = "java/lang/Cloneable")) : Cond.castable a b ∈ lw_tbl := by
  rcases h with ⟨h1, h2⟩ | ⟨h1, h2⟩
  · subst h1
    simp only [excL, List.mem_cons, List.not_mem_nil, or_false] at h2
    rcases h2 with h2 | h2 | h2 | h2 <;> subst h2
    · exact tw_547
    · exact tw_332
    · exact tw_413
    · exact tw_1041
  · subst h1; subst h2
    exact tw_848
theorem decl_E {x : MethodName} (h : x ∈ decL) : Cond.declares x ∈ lw_tbl := by
  simp only [decL, List.mem_cons, List.not_mem_nil, or_false] at h
  rcases h with h | h | h <;> subst h
  · exact tw_334
  · exact tw_336
  · exact tw_338
theorem priv_E {args : Array Value} {s : State} (hts : ∀ w ∈ lw_tbl, w.before args s = true) {y : MethodName} (h : y ∈ privL) : (Cond.selects "java/lang/StringBuilder" y y).before args s = true := by
  have hsel := hts _ tw_857
  simp only [privL, List.mem_cons, List.not_mem_nil, or_false] at h
  rcases h with h | h | h | h <;> subst h
  · exact sel_priv hsel rfl (hts _ tw_828) (hts _ tw_829)
  · exact sel_priv hsel rfl (hts _ tw_824) (hts _ tw_825)
  · exact sel_priv hsel rfl (hts _ tw_880) (hts _ tw_881)
  · exact sel_priv hsel rfl (hts _ tw_876) (hts _ tw_877)
theorem ev_len {args : Array Value} {s : State} {t t' : Term} {c n d : String} (h : t.eval args s none [] s = t'.eval args s none [] s) : (Term.length (.field t c n d)).eval args s none [] s = (Term.length (.field t' c n d)).eval args s none [] s := by
  simp only [Term.eval, h]
theorem ev_el {args : Array Value} {s : State} {t t' : Term} {c n d : String} {k : Int32} (h : t.eval args s none [] s = t'.eval args s none [] s) : (Term.elem (.field t c n d) (.int k)).eval args s none [] s = (Term.elem (.field t' c n d) (.int k)).eval args s none [] s := by
  simp only [Term.eval, h]
theorem dif_I : ∀ i, i < 18 → ∀ j, j < 18 → i ≠ j → lenI.getD i 0 ≠ lenI.getD j 0 ∨ ((List.range 12).any fun k => decide (k < lenI.getD i 0) && (decide (k < lenI.getD j 0) && decide ((bytI.getD i []).getD k 0 ≠ (bytI.getD j []).getD k 0))) = true := by decide +kernel
theorem len_I : ∀ i, i < 18 → lenI.getD i 0 < 100 := by decide +kernel
theorem eq_ev {args : Array Value} {s : State} {t u : Term} {a : Nat} (h : (Cond.eq t u).before args s = true) (ht : t.eval args s none [] s = some (.ref a)) : u.eval args s none [] s = some (.ref a) := by
  unfold Cond.before at h
  simp only [Cond.holds, Cond.value, ht] at h
  cases hu : u.eval args s none [] s with
  | none => rw [hu] at h; simp at h
  | some v =>
    rw [hu] at h
    cases v <;> simp at h
    rw [h]
theorem start_EW {s : State} {args : Array Value} {b L : Nat} {xs : Nat → Int32} (hX : va_X b L xs s s.heap) (hbl : b < s.heap.size) (hts : ∀ w ∈ lw_tbl, w.before args s = true) (hfl : ∀ c ∈ fl1, c.before args s = true) : ∃ ek : EK, EW s.heap.size ek s s.heap ∧ sA ek = b ∧ sL ek = L ∧ sX ek = xs := by
  have hA : ∀ a : Nat, a < s.heap.size → ¬ aB s.heap.size a := fun a h => Nat.not_le.mpr h
  have at' : ∀ {i : Nat} {c : Cond}, fl1[i]? = some c → c.before args s = true := fun h => hfl _ (List.mem_of_getElem? h)
  have hne : ∀ i j : Nat, i < 18 → j < 18 → i ≠ j → (Cond.not (Cond.eq (tmI i) (tmI j))).before args s = true ∨ (Cond.not (Cond.eq (tmI j) (tmI i))).before args s = true := by
    intro i j hi hj hij
    left
    obtain ⟨a, _, _, _, q1, -⟩ := Cond.exactly_spec (args := args) (first := s) (o := none) (s := s) (idx := []) (t := tmI i) (cls := "java/lang/String") (at' (pI_ex i hi))
    obtain ⟨b, _, _, _, r1, -⟩ := Cond.exactly_spec (args := args) (first := s) (o := none) (s := s) (idx := []) (t := tmI j) (cls := "java/lang/String") (at' (pI_ex j hj))
    have hab : a ≠ b := by
      intro e
      subst e
      have ht : (tmI i).eval args s none [] s = (tmI j).eval args s none [] s := q1.trans r1.symm
      rcases dif_I i hi j hj hij with h | h
      · have h1 := (va_eqt (at' (pI_le i hi))).symm.trans ((ev_len ht).trans (va_eqt (at' (pI_le j hj))))
        have h2 : Int32.ofNat (lenI.getD i 0) = Int32.ofNat (lenI.getD j 0) := by
          have h3 := Option.some.inj h1
          injection h3
        have h4 : nI (lenI.getD i 0) = nI (lenI.getD j 0) := h2
        have h5 := congrArg Int32.toNatClampNeg h4
        rw [nI_clamp (by have := len_I i hi; omega), nI_clamp (by have := len_I j hj; omega)] at h5
        exact h h5
      · obtain ⟨k, -, hk⟩ := List.any_eq_true.mp h
        simp only [Bool.and_eq_true, decide_eq_true_eq] at hk
        obtain ⟨k1, k2, k3⟩ := hk
        have h1 := (va_eqt (at' (pI_el i hi k k1))).symm.trans ((ev_el ht).trans (va_eqt (at' (pI_el j hj k k2))))
        have h3 := Option.some.inj h1
        injection h3 with h3
        exact k3 h3
    simp [Cond.before, Cond.holds, Cond.value, q1, r1, hab]
  obtain ⟨adK, adV, hS, hE⟩ := vk_Sof (args := args) (s := s) (N := 18) (tm := tmI) (len := lenI) (byt := bytI) (A := aB s.heap.size) (fun i hi => by have := len_I i hi; omega) (fun i hi => at' (pI_ex i hi)) (fun i hi => at' (pI_co i hi)) (fun i hi => at' (pI_ar i hi)) (fun i hi => at' (pI_le i hi)) (fun i hi j hj => at' (pI_el i hi j hj)) hne hA
  obtain ⟨tO, hO, TO⟩ := va_Tof (args := args) (N := 100) (f := fun j => .int (Int32.ofNat (48 + j % 10))) (A := aB s.heap.size) (by decide) (at' pO_ar) (va_eqt (at' pO_le)) (fun j hj => va_eqt (at' (pO_el j hj))) hA
  obtain ⟨tD, hD, TD⟩ := va_Tof (args := args) (N := 100) (f := fun j => .int (Int32.ofNat (48 + j / 10))) (A := aB s.heap.size) (by decide) (at' pD_ar) (va_eqt (at' pD_le)) (fun j hj => va_eqt (at' (pD_el j hj))) hA
  refine ⟨(adK, adV, b, L, xs, tO, tD), ⟨fun w hw => ?_, fun q hq => ?_, vx_Zqof (hts _ tw_357) (hts _ tw_7) (at' pU_st) hA, vx_Zqof (hts _ tw_359) (hts _ tw_7) (at' pS_st) hA, fun i q hi => ?_, hS, va_Zof (hts _ tw_502) (hts _ tw_13) (va_eqi (at' pC_st)) hA, va_Zqof (hts _ tw_518) (hts _ tw_19) (at' pF_st) hA, fun q hq => ?_, fun q hq => ?_, hX, hbl, hA _ hbl, hts _ tw_1078, va_AO.of (hts _ tw_777), ⟨va_Zof (hts _ tw_936) (hts _ tw_22) hO hA, TO⟩, ⟨va_Zof (hts _ tw_938) (hts _ tw_22) hD hA, TD⟩, fun y hy => va_Nw.of rfl (priv_E hts hy)⟩, rfl, rfl, rfl⟩
  · cases w <;> first | exact va_Nw.of rfl (hts _ (cast_E (by simpa [notG] using hw))) | exact va_Nw.of rfl (hts _ (decl_E (by simpa [notG] using hw))) | (simp [notG] at hw; done)
  · obtain ⟨i, hi⟩ := List.getElem?_of_mem hq
    have hi2 : i < strT.length := (List.getElem?_eq_some_iff.mp hi).1
    have hd : strT.getD i ("", 0, "") = q := by rw [List.getD_eq_getElem?_getD, hi]; rfl
    obtain ⟨a, _, _, _, q1, -⟩ := Cond.exactly_spec (args := args) (first := s) (o := none) (s := s) (idx := []) (cls := "java/lang/String") (at' (pT_ex i hi2))
    rw [hd] at q1
    exact ⟨a, vk_R.of (hts _ (tT q hq)) q1⟩
  · have hi2 : i < 11 := (List.getElem?_eq_some_iff.mp hi).1
    have h1 := hE i (by omega)
    have hq : q ∈ strI := List.mem_of_getElem? hi
    have ht : tmI i = Term.string q.1 q.2.1 := by
      have hd : strI.getD i ("", 0, "") = q := by rw [List.getD_eq_getElem?_getD, hi]; rfl
      rw [← hd]
      exact (by decide +kernel : ∀ i, i < 11 → tmI i = Term.string (strI.getD i ("", 0, "")).1 (strI.getD i ("", 0, "")).2.1) i hi2
    rw [ht] at h1
    exact vk_R.of (hts _ (tI q hq)) h1
  · obtain ⟨i, hi⟩ := List.getElem?_of_mem hq
    have hi2 : i < 4 := (List.getElem?_eq_some_iff.mp hi).1
    have hd : ncL.getD i ("", "") = q := by rw [List.getD_eq_getElem?_getD, hi]; rfl
    have h1 := at' (pN i hi2)
    rw [hd] at h1
    exact va_Nc.of h1
  · obtain ⟨i, hi⟩ := List.getElem?_of_mem hq
    have hi2 : i < 10 := (List.getElem?_eq_some_iff.mp hi).1
    have hd : strW.getD i (0, "", 0) = q := by rw [List.getD_eq_getElem?_getD, hi]; rfl
    refine vk_R.of (hts _ (tW q hq)) ?_
    rw [← hd]
    by_cases h3 : i < 3
    · have h4 := hE (i + 1) (by omega)
      have e3 : (strW.getD i (0, "", 0)).2.2 = i + 1 := (by decide +kernel : ∀ i, i < 3 → (strW.getD i (0, "", 0)).2.2 = i + 1) i h3
      rw [e3]
      exact eq_ev (at' (pW_eq i h3)) h4
    · have e3 : (strW.getD i (0, "", 0)).2.2 < 18 ∧ tmI (strW.getD i (0, "", 0)).2.2 = Term.string "HostelBedsLaw" (strW.getD i (0, "", 0)).1 := (by decide +kernel : ∀ i, i < 10 → ¬ i < 3 → (strW.getD i (0, "", 0)).2.2 < 18 ∧ tmI (strW.getD i (0, "", 0)).2.2 = Term.string "HostelBedsLaw" (strW.getD i (0, "", 0)).1) i hi2 h3
      rw [← e3.2]
      exact hE _ e3.1
