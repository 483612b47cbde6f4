/-! p47, layer 2: the pure statement -/
theorem pure_holds : Pure := by
  intro L xs hL
  have Q : RQ xs L (rwF xs L) := rwB_RQ
  have hB := qB_rng (xs := xs) (L := L)
  have h37 := F_37 (xs := xs) (L := L)
  have hS := I1_start
  obtain ⟨r, t1, t2⟩ := text_h (xs := xs) (L := L) hL
  have h7 : rI memS 7 0 0 = nI 0 := rfl
  have hP : rP memS 0 < 2 ∧ rP memS 1 < 2 ∧ rP memS 0 ≠ rP memS 1 := ⟨by decide, by decide, by decide⟩
  obtain ⟨σ, l1, h1, h3⟩ := lload_h t2 h7 hP
  obtain ⟨ac, a1, hA⟩ := accepted_h (xs := xs) (L := L) hL
  have n0 : fX5_net memS = some (0 : Int32) := rfl
  have s1 : fX5_setting (1 : Int32) memS = some (.inl (60 : Int32)) := q_setting hS (i := 1) (by omega)
  have s2 : fX5_setting (2 : Int32) memS = some (.inl (7 : Int32)) := q_setting hS (i := 2) (by omega)
  have s3 : fX5_setting (3 : Int32) memS = some (.inl (10 : Int32)) := q_setting hS (i := 3) (by omega)
  have c0 : fX5_count (0 : Int32) memS = some (.inl (0 : Int32)) := q_count0 hS
  have f0 : fX5_fullNights memS = some (0 : Int32) := q_fullE hS
  obtain ⟨look, hlk⟩ : ∃ look, look = uN (cl xs L 13) % 30 := ⟨_, rfl⟩
  have hlook : look < 30 := by rw [hlk]; exact Nat.mod_lt _ (by omega)
  obtain ⟨σ2, m1, h1b⟩ := areCh_l hL h1 h3 hA hlook
  have ecnt : sumNQ (fun b => b1 (decide (bkv (rwF xs L) b 8 = 0))) (rwF xs L 37) = wN xs L (qB xs L) := by
    rw [h37]
    exact wN_c (xs := xs) (L := L) (qB xs L) (Nat.le_refl _)
  have hp60 : WF (rwF xs L) := h3.1
  have nb1 : fL_noBed (nI (qB xs L)) (0 : Int32) σ2 = some (1 : Int32) := by
    unfold fL_noBed
    rw [q_bedN h1b h3 (fun ⟨b, p, hb, hp, e1, e2⟩ => by
      have hb2 := hb
      have := nI_inj (by omega) (by omega) e1
      omega), Option.bind_some, Sum.elim_inr, if_pos rfl]
  have nn1 : fL_noNumber (-1 : Int32) (0 : Int32) σ2 = some (1 : Int32) := by
    unfold fL_noNumber
    rw [show fX5_booking (-1 : Int32) (0 : Int32) σ2 = some (.inr 3) from q_bookN h1b h3 (fun ⟨b, hb, e⟩ => nI_m1 (n := b) (by omega) e.symm), Option.bind_some, Sum.elim_inr, if_pos rfl]
  have nn2 : fL_noNumber (nI (qB xs L)) (9 : Int32) σ2 = some (1 : Int32) := by
    unfold fL_noNumber
    rw [q_bookN h1b h3 (fun ⟨b, hb, e⟩ => by
      have := nI_inj (by omega) (by omega) e
      omega), Option.bind_some, Sum.elim_inr, if_pos rfl]
  unfold fL_body jL_body_396
  rw [c0, Option.bind_some, Sum.elim_inl, if_neg (fun z => z rfl), s1, Option.bind_some, Sum.elim_inl, if_neg (fun z => z rfl), s2, Option.bind_some, Sum.elim_inl, if_neg (fun z => z rfl), s3, Option.bind_some, Sum.elim_inl, if_neg (fun z => z rfl), n0, Option.bind_some, if_neg (fun z => z rfl), f0, Option.bind_some, if_pos rfl, t1, Option.bind_some, l1, Option.bind_some, bookingsOf_h hL, Option.bind_some]
  try dsimp only
  rw [if_neg (fun z => z rfl), q_count0 h1, Option.bind_some, Sum.elim_inl, roomsOf_h hL, Option.bind_some, F_4, if_neg (fun z => z rfl), q_count1 h1, Option.bind_some, Sum.elim_inl, beds_h hL Q, Option.bind_some, if_pos rfl, a1, Option.bind_some, asks_h hL h1 h3 _ hA, Option.bind_some, Sum.elim_inl, askr_h hL h1 h3 _, Option.bind_some, Sum.elim_inl, q_count3 h1 h3, Option.bind_some, Sum.elim_inl, ecnt, if_neg (fun z => z rfl), isHostel_l hL h1 h3 hA, Option.bind_some, if_neg (by decide), show fL_cell xs L (13 : Int32) = some (cl xs L 13) from cell_h hL (k := 13) (by omega), Option.bind_some, show fL_part (cl xs L 13) (30 : Int32) = some (nI look) by rw [hlk]; exact part_h _ (n := 30) (by omega) (by omega), Option.bind_some, m1, Option.bind_some]
  try dsimp only
  rw [if_pos (by decide), Option.bind_some, nb1, Option.bind_some, nn1, Option.bind_some, Option.bind_some, nn2, Option.bind_some, if_neg (by decide), Option.bind_some]
  by_cases h0 : qB xs L = 0
  · rw [h0, if_pos (show nI 0 = (0 : Int32) from rfl)]
  · have hb0 : 0 < rwF xs L 37 := by omega
    have nn3 : fL_noNumber (0 : Int32) (8 : Int32) σ2 = some (2 : Int32) := by
      unfold fL_noNumber
      rw [show fX5_booking (0 : Int32) (8 : Int32) σ2 = some (.inr 2) from q_book8 h1b h3 (b := 0) hb0, Option.bind_some, Sum.elim_inr, if_neg (by omega), if_pos rfl]
    have nb2 : fL_noBed (0 : Int32) (nI (prs (rwF xs L) 0)) σ2 = some (1 : Int32) := by
      unfold fL_noBed
      rw [q_bedN h1b h3 (fun ⟨b, p, hb, hp, e1, e2⟩ => by
        have hbe : 0 = b := nI_inj (a := 0) (by omega) (by omega) e1
        subst hbe
        have := WF_prs hp60 hb0
        have := nI_inj (by omega) (by omega) e2
        omega), Option.bind_some, Sum.elim_inr, if_pos rfl]
    rw [if_neg (show ¬ nI (qB xs L) = (0 : Int32) from nI_ne (b := 0) (by omega) (by omega) h0), nn3, Option.bind_some, if_neg (fun z => z rfl), show fL_people xs L (0 : Int32) = some (nI (prs (rwF xs L) 0)) from people_h hL Q (b := 0) hb0, Option.bind_some, nb2, Option.bind_some, if_neg (fun z => z rfl)]
