/-! p47, layer 2: append and truncate, the class's side; the whole text in the buffer -/
section
variable {σ : Mem} {n : Nat}
theorem app_h (p : Nat → Int32) (hn : n ≤ 680) (h7 : rI σ 7 0 0 = nI n) : OkQ (fX5_append (p 0) (p 1) (p 2) (p 3) (p 4) σ) (fun r => (∃ x, r.1 = .inl x) ∧ rI r.2 7 0 0 = nI (n + 20) ∧ (∀ i, i < 20 → rI r.2 6 0 (n + i) = byB (p (i / 4)) (i % 4)) ∧ (∀ i, i < n → rI r.2 6 0 i = rI σ 6 0 i) ∧ FrQ (fun k _ _ => k = 6 ∨ k = 7) σ r.2) := by
  unfold fX5_append
  rw [h7, show nI n + (20 : Int32) = nI (n + 20) from nI_add _ _, if_pos (show nI (n + 20) ≤ (700 : Int32) from (nI_leI (b := 700) (by omega) (by omega)).mpr (by omega))]
  refine Ok_bind (put_h (p 0) (n := n) (by omega) h7) (fun s1 ⟨a1, a2, a3, a4⟩ => ?_)
  refine Ok_bind (put_h (p 1) (n := n + 4) (by omega) a1) (fun s2 ⟨b1, b2, b3, b4⟩ => ?_)
  refine Ok_bind (put_h (p 2) (n := n + 4 + 4) (by omega) b1) (fun s3 ⟨c1, c2, c3, c4⟩ => ?_)
  refine Ok_bind (put_h (p 3) (n := n + 4 + 4 + 4) (by omega) c1) (fun s4 ⟨d1, d2, d3, d4⟩ => ?_)
  refine Ok_bind (put_h (p 4) (n := n + 4 + 4 + 4 + 4) (by omega) d1) (fun s5 ⟨e1, e2, e3, e4⟩ => ?_)
  refine Ok_some ⟨⟨_, rfl⟩, e1, fun i hi => ?_, fun i hi => ?_, Fr_tr (Fr_tr (Fr_tr (Fr_tr a4 b4) c4) d4) e4⟩
  · dsimp only
    have e : i / 4 = 0 ∨ i / 4 = 1 ∨ i / 4 = 2 ∨ i / 4 = 3 ∨ i / 4 = 4 := by omega
    rcases e with e | e | e | e | e
    · rw [e, e3 _ (by omega), d3 _ (by omega), c3 _ (by omega), b3 _ (by omega), show n + i = n + i % 4 by omega]
      exact a2 _ (by omega)
    · rw [e, e3 _ (by omega), d3 _ (by omega), c3 _ (by omega), show n + i = n + 4 + i % 4 by omega]
      exact b2 _ (by omega)
    · rw [e, e3 _ (by omega), d3 _ (by omega), show n + i = n + 4 + 4 + i % 4 by omega]
      exact c2 _ (by omega)
    · rw [e, e3 _ (by omega), show n + i = n + 4 + 4 + 4 + i % 4 by omega]
      exact d2 _ (by omega)
    · rw [e, show n + i = n + 4 + 4 + 4 + 4 + i % 4 by omega]
      exact e2 _ (by omega)
  · dsimp only
    rw [e3 _ (by omega), d3 _ (by omega), c3 _ (by omega), b3 _ (by omega), a3 _ hi]
theorem trunc_h {m : Nat} (hm : m ≤ n) (hn : n ≤ 700) (h7 : rI σ 7 0 0 = nI n) : fX5_truncate (nI m) σ = some (.inl (), wI σ 7 0 0 (nI m)) := by
  unfold fX5_truncate
  rw [if_neg (show ¬ nI m < (0 : Int32) from nlt0 (by omega)), h7, if_pos ((nI_leI (by omega) (by omega)).mpr hm)]
end
section
variable {N : Nat} {f : Nat → Int32} {ls : List Nat} {σ : Mem} {n : Nat}
theorem lays_h (T : TXr N f ls) (ha : asc ls) (hl : ls.length ≤ 350) (h7 : rI σ 7 0 0 = nI n) (hn : n ≤ 700) : OkQ (fL_lays N f σ) (fun σ2 => TxC σ2 ls.length (fun i => nI (chT ls i)) ∧ FrQ (fun k _ _ => k = 6 ∨ k = 7) σ σ2) := by
  unfold fL_lays
  rw [show fX5_truncate (0 : Int32) σ = some (.inl (), wI σ 7 0 0 (nI 0)) from trunc_h (Nat.zero_le n) hn h7, Option.bind_some]
  try dsimp only
  rw [Sum.elim_inl]
  refine Ok_bind (Q := fun σ2 => ∃ K, ls.length ≤ 20 * K ∧ K ≤ 18 ∧ rI σ2 7 0 0 = nI (20 * K) ∧ (∀ i, i < 20 * K → rI σ2 6 0 i = nI (chT ls i)) ∧ FrQ (fun k _ _ => k = 6 ∨ k = 7) σ σ2) ?_ (fun σ2 ⟨K, k1, k2, k3, k4, k5⟩ => ?_)
  · obtain ⟨K, hK⟩ : ∃ K, K = (ls.length + 19) / 20 := ⟨_, rfl⟩
    refine loop_Ok (fun (k : Nat) (a : Int32 × Mem) => a.1 = nI (20 * k) ∧ rI a.2 7 0 0 = nI (20 * k) ∧ (∀ i, i < 20 * k → rI a.2 6 0 i = nI (chT ls i)) ∧ FrQ (fun k _ _ => k = 6 ∨ k = 7) σ a.2) K (fun k a hk hI => ?_) 20 0 ((0 : Int32), wI σ 7 0 0 (nI 0)) (by omega) (by omega) ⟨rfl, rI_wI_self, fun i hi => absurd hi (by omega), Fr_wI (Or.inr rfl)⟩
    obtain ⟨ai, as⟩ := a
    obtain ⟨h1, h2, h3, h4⟩ := hI
    try dsimp only at h1 h2 h3 h4
    subst h1
    unfold stL_lays_7
    rw [lenTS_h T, Option.bind_some]
    try dsimp only
    by_cases hlt : ls.length ≤ 20 * k
    · rw [if_pos ((nI_leI (by omega) (by omega)).mpr hlt)]
      exact Ok_some ⟨k, hlt, by omega, h2, h3, h4⟩
    · rw [if_neg (fun z => hlt ((nI_leI (by omega) (by omega)).mp z))]
      refine Ok_bind (word_h T ha (k := 20 * k) (by omega) as) (fun w hw => ?_)
      refine Ok_bind (app_h w (n := 20 * k) (by omega) h2) (fun r ⟨⟨x, hx⟩, b1, b2, b3, b4⟩ => ?_)
      rw [hx, Sum.elim_inl]
      refine Ok_some ⟨by omega, nI_add _ _, b1, fun i hi => ?_, Fr_tr h4 b4⟩
      try dsimp only
      by_cases q : i < 20 * k
      · rw [b3 i q, h3 i q]
      · have := b2 (i - 20 * k) (by omega)
        rw [show 20 * k + (i - 20 * k) = i by omega] at this
        rw [this, hw _ (by omega), byB_wv (fun q => chT_lt ha _) _ (by omega)]
        congr 2
        omega
  · rw [lenTS_h T, Option.bind_some, trunc_h k1 (by omega) k3, Option.bind_some]
    try dsimp only
    rw [Sum.elim_inl]
    refine Ok_some ⟨⟨by omega, rI_wI_self, fun i hi => ?_⟩, Fr_tr k5 (Fr_wI (Or.inr rfl))⟩
    rw [rI_wI_ne (by omega)]
    exact k4 i (by omega)
end
