/-! what holds at the law's entry (written by wip/p47gen/n47.py) -/
theorem arr_of {s : State} {cA comp : ClassId} {kA : Class} {ty : FieldType} (h2 : s.vm.classes[cA]? = some kA) (h3 : kA.kind = .array comp ty) : ArrOfT s cA ty := fun _ _ => ⟨fun k h => (by cases h), kA, h2, comp, h3⟩
theorem start_K {s : State} {args : Array Value} (hts : ∀ w ∈ lw_tbl, w.before args s = true) : ∃ (D : va_G) (cy : Nat → ClassId), va_K D vwCl (tysL cy) s := by
  have hg : ∀ w ∈ lw_g, w.before args s = true := fun w h => hts w (lw_g_sub w h)
  obtain ⟨c0, i0, h0⟩ := u_known (C := RJ0) (T := TJ0) (N := 4) hg inJg0 (hts _ tw_961)
  obtain ⟨c1, i1, h1⟩ := u_known (C := RJ4) (T := TJ4) (N := 4) hg inJg4 (hts _ tw_782)
  obtain ⟨c2, i2, h2⟩ := u_known (C := RX0) (T := TX0) (N := 11) hg inXg0 (hts _ tw_106)
  obtain ⟨c3, i3, h3⟩ := u_known (C := RX1) (T := TX1) (N := 12) hg inXg1 (hts _ tw_65)
  obtain ⟨c4, i4, h4⟩ := u_known (C := RX2) (T := TX2) (N := 7) hg inXg2 (hts _ tw_35)
  obtain ⟨c5, i5, h5⟩ := u_known (C := RX3) (T := TX3) (N := 8) hg inXg3 (hts _ tw_248)
  obtain ⟨c6, i6, h6⟩ := u_known (C := RX4) (T := TX4) (N := 5) hg inXg4 (hts _ tw_74)
  obtain ⟨c7, i7, h7⟩ := u_known (C := RX5) (T := TX5) (N := 12) hg inXg5 (hts _ tw_27)
  obtain ⟨a0, k0, m0, e0, f0, g0⟩ := Cond.arrayClass_spec (hts _ tw_105)
  obtain ⟨a2, k2, m2, e2, f2, g2⟩ := Cond.arrayClass_spec (hts _ tw_63)
  obtain ⟨a3, k3, m3, e3, f3, g3⟩ := Cond.arrayClass_spec (hts _ tw_321)
  obtain ⟨a4, k4, m4, e4, f4, g4⟩ := Cond.arrayClass_spec (hts _ tw_320)
  obtain ⟨a8, k8, m8, e8, f8, g8⟩ := Cond.arrayClass_spec (hts _ tw_1073)
  obtain ⟨m5, a5, k5, e5, -, f5, g5, r5⟩ := Cond.arrayOver_spec (hts _ tw_71)
  obtain ⟨m6, a6, k6, e6, -, f6, g6, r6⟩ := Cond.arrayOver_spec (hts _ tw_73)
  obtain ⟨m7, a7, k7, e7, -, f7, g7, r7⟩ := Cond.arrayOver_spec (hts _ tw_284)
  obtain ⟨m10, a10, k10, e10, -, f10, g10, r10⟩ := Cond.arrayOver_spec (hts _ tw_777)
  obtain ⟨m9, a9, k9, e9, -, f9, g9, r9⟩ := arrayOverA_spec (hts _ tw_1078)
  refine ⟨(fun c => match c with | 0 => c0 | 1 => c1 | 2 => c2 | 3 => c3 | 4 => c4 | 5 => c5 | 6 => c6 | _ => c7, fun c => match c with | 0 => i0 | 1 => i1 | 2 => i2 | 3 => i3 | 4 => i4 | 5 => i5 | 6 => i6 | _ => i7), (fun k => match k with | 0 => a0 | 2 => a2 | 3 => a3 | 4 => a4 | 5 => a5 | 6 => a6 | 7 => a7 | 8 => a8 | 9 => a9 | 10 => a10 | _ => 0), ?_, ?_⟩
  · intro c q hq
    match c, hq with
    | 0, hq => cases hq; exact h0
    | 1, hq => cases hq; exact h1
    | 2, hq => cases hq; exact h2
    | 3, hq => cases hq; exact h3
    | 4, hq => cases hq; exact h4
    | 5, hq => cases hq; exact h5
    | 6, hq => cases hq; exact h6
    | 7, hq => cases hq; exact h7
    | (c + 8), hq => simp [vwCl] at hq
  · intro k q hq
    match k, hq with
    | 0, hq => cases hq; exact ⟨arr_of f0 g0, e0⟩
    | 1, hq => cases hq; exact ⟨arr_of f0 g0, e0⟩
    | 2, hq => cases hq; exact ⟨arr_of f2 g2, e2⟩
    | 3, hq => cases hq; exact ⟨arr_of f3 g3, e3⟩
    | 4, hq => cases hq; exact ⟨arr_of f4 g4, e4⟩
    | 5, hq => cases hq; exact ⟨arr_of f5 g5, k5, m5, f5, g5, e5, r5⟩
    | 6, hq => cases hq; exact ⟨arr_of f6 g6, k6, m6, f6, g6, e6, r6⟩
    | 7, hq => cases hq; exact ⟨arr_of f7 g7, k7, m7, f7, g7, e7, r7⟩
    | 8, hq => cases hq; exact ⟨arr_of f8 g8, e8⟩
    | 9, hq => cases hq; exact ⟨arr_of f9 g9, r9⟩
    | 10, hq => cases hq; exact ⟨arr_of f10 g10, k10, m10, f10, g10, e10, r10⟩
    | (k + 11), hq => simp [tysL] at hq
theorem start_NE {s : State} {args : Array Value} (hts : ∀ w ∈ lw_tbl, w.before args s = true) : NE s := by
  refine ⟨va_AO.of (hts _ tw_71), va_AO.of (hts _ tw_73), va_AO.of (hts _ tw_284), fun w hw => ?_⟩
  simp only [nstL, List.mem_cons, List.not_mem_nil, or_false] at hw
  rcases hw with rfl | rfl | rfl | rfl
  · exact va_Nw.of rfl (hts _ tw_36)
  · exact va_Nw.of rfl (hts _ tw_249)
  · exact va_Nw.of rfl (hts _ tw_75)
  · exact va_Nw.of rfl (hts _ tw_107)
