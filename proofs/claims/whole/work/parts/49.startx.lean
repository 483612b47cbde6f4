theorem cast_E {a b : String} (h : a = b ∧ a ∈ excL) : Cond.castable a b ∈ lw_tbl := by
  obtain ⟨h1, h2⟩ := h
  subst h1
  simp only [excL, List.mem_cons, List.not_mem_nil, or_false] at h2
  rcases h2 with h2 | h2 | h2 | h2 <;> subst h2
  · exact tw_479
  · exact tw_559
  · exact tw_764
  · exact tw_808
theorem decl_E {x : MethodName} (h : x ∈ decL) : Cond.declares x ∈ lw_tbl := by
  simp only [decL, List.mem_cons, List.not_mem_nil, or_false] at h
  rcases h with h | h | h <;> subst h
  · exact tw_481
  · exact tw_483
  · exact tw_485
theorem ev_len {args : Array Value} {s : State} {t t' : Term} {c n d : String} (h : t.eval args s none [] s = t'.eval args s none [] s) : (Term.length (.field t c n d)).eval args s none [] s = (Term.length (.field t' c n d)).eval args s none [] s := by
  simp only [Term.eval, h]
theorem ev_el {args : Array Value} {s : State} {t t' : Term} {c n d : String} {k : Int32} (h : t.eval args s none [] s = t'.eval args s none [] s) : (Term.elem (.field t c n d) (.int k)).eval args s none [] s = (Term.elem (.field t' c n d) (.int k)).eval args s none [] s := by
  simp only [Term.eval, h]
theorem dif_I : ∀ i, i < 11 → ∀ j, j < 11 → i ≠ j → lenI.getD i 0 ≠ lenI.getD j 0 ∨ ((List.range 12).any fun k => decide (k < lenI.getD i 0) && (decide (k < lenI.getD j 0) && decide ((bytI.getD i []).getD k 0 ≠ (bytI.getD j []).getD k 0))) = true := by decide +kernel
theorem len_I : ∀ i, i < 11 → lenI.getD i 0 < 100 := by decide +kernel
theorem start_EW {s : State} {args : Array Value} (hts : ∀ w ∈ lw_tbl, w.before args s = true) (hfl : ∀ c ∈ fl1, c.before args s = true) : ∃ ek : EK, EW s.heap.size ek s s.heap := by
  have hA : ∀ a : Nat, a < s.heap.size → ¬ aB s.heap.size a := fun a h => Nat.not_le.mpr h
  have at' : ∀ {i : Nat} {c : Cond}, fl1[i]? = some c → c.before args s = true := fun h => hfl _ (List.mem_of_getElem? h)
  have hne : ∀ i j : Nat, i < 11 → j < 11 → i ≠ j → (Cond.not (Cond.eq (tmI i) (tmI j))).before args s = true ∨ (Cond.not (Cond.eq (tmI j) (tmI i))).before args s = true := by
    intro i j hi hj hij
    left
    obtain ⟨a, _, _, _, q1, -⟩ := Cond.exactly_spec (args := args) (first := s) (o := none) (s := s) (idx := []) (t := tmI i) (cls := "java/lang/String") (at' (pI_ex i hi))
    obtain ⟨b, _, _, _, r1, -⟩ := Cond.exactly_spec (args := args) (first := s) (o := none) (s := s) (idx := []) (t := tmI j) (cls := "java/lang/String") (at' (pI_ex j hj))
    have hab : a ≠ b := by
      intro e
      subst e
      have ht : (tmI i).eval args s none [] s = (tmI j).eval args s none [] s := q1.trans r1.symm
      rcases dif_I i hi j hj hij with h | h
      · have h1 := (va_eqt (at' (pI_le i hi))).symm.trans ((ev_len ht).trans (va_eqt (at' (pI_le j hj))))
        have h2 : Int32.ofNat (lenI.getD i 0) = Int32.ofNat (lenI.getD j 0) := by
          have h3 := Option.some.inj h1
          injection h3
        have h4 : nI (lenI.getD i 0) = nI (lenI.getD j 0) := h2
        have h5 := congrArg Int32.toNatClampNeg h4
        rw [nI_clamp (by have := len_I i hi; omega), nI_clamp (by have := len_I j hj; omega)] at h5
        exact h h5
      · obtain ⟨k, -, hk⟩ := List.any_eq_true.mp h
        simp only [Bool.and_eq_true, decide_eq_true_eq] at hk
        obtain ⟨k1, k2, k3⟩ := hk
        have h1 := (va_eqt (at' (pI_el i hi k k1))).symm.trans ((ev_el ht).trans (va_eqt (at' (pI_el j hj k k2))))
        have h3 := Option.some.inj h1
        injection h3 with h3
        exact k3 h3
    simp [Cond.before, Cond.holds, Cond.value, q1, r1, hab]
  obtain ⟨adK, adV, hS, hE⟩ := vk_Sof (args := args) (s := s) (N := 11) (tm := tmI) (len := lenI) (byt := bytI) (A := aB s.heap.size) (fun i hi => by have := len_I i hi; omega) (fun i hi => at' (pI_ex i hi)) (fun i hi => at' (pI_co i hi)) (fun i hi => at' (pI_ar i hi)) (fun i hi => at' (pI_le i hi)) (fun i hi j hj => at' (pI_el i hi j hj)) hne hA
  refine ⟨(adK, adV), fun w hw => ?_, fun q hq => ?_, vx_Zqof (hts _ tw_504) (hts _ tw_8) (at' pU_st) hA, vx_Zqof (hts _ tw_506) (hts _ tw_8) (at' pS_st) hA, fun i q hi => ?_, hS, va_Zof (hts _ tw_611) (hts _ tw_13) (va_eqi (at' pC_st)) hA, va_Zqof (hts _ tw_627) (hts _ tw_15) (at' pF_st) hA, fun q hq => ?_⟩
  · cases w <;> first | exact va_Nw.of rfl (hts _ (cast_E (by simpa [notG] using hw))) | exact va_Nw.of rfl (hts _ (decl_E (by simpa [notG] using hw))) | (simp [notG] at hw; done)
  · obtain ⟨i, hi⟩ := List.getElem?_of_mem hq
    have hi2 : i < strT.length := (List.getElem?_eq_some_iff.mp hi).1
    have hd : strT.getD i ("", 0, "") = q := by rw [List.getD_eq_getElem?_getD, hi]; rfl
    obtain ⟨a, _, _, _, q1, -⟩ := Cond.exactly_spec (args := args) (first := s) (o := none) (s := s) (idx := []) (cls := "java/lang/String") (at' (pT_ex i hi2))
    rw [hd] at q1
    exact ⟨a, vk_R.of (hts _ (tT q hq)) q1⟩
  · have hi2 : i < 11 := (List.getElem?_eq_some_iff.mp hi).1
    have hd : strI.getD i ("", 0, "") = q := by rw [List.getD_eq_getElem?_getD, hi]; rfl
    have h1 := hE i hi2
    unfold tmI at h1
    rw [hd] at h1
    have hq : q ∈ strI := List.mem_of_getElem? hi
    have ho : q.1 = "HostelBeds$Input" := by
      simp only [strI, List.mem_cons, List.not_mem_nil, or_false] at hq
      rcases hq with rfl | rfl | rfl | rfl | rfl | rfl | rfl | rfl | rfl | rfl | rfl <;> rfl
    exact vk_R.of (hts _ (tI q hq)) (by rw [ho]; exact h1)
  · obtain ⟨i, hi⟩ := List.getElem?_of_mem hq
    have hi2 : i < 4 := (List.getElem?_eq_some_iff.mp hi).1
    have hd : ncL.getD i ("", "") = q := by rw [List.getD_eq_getElem?_getD, hi]; rfl
    have h1 := at' (pN i hi2)
    rw [hd] at h1
    exact va_Nc.of h1
