/-! p47, layer 2: isHostel -/
section
variable {xs : Nat → Int32} {L : Nat} {σ : Mem} {ρ : RwQ} {ac : Nat → Int32}
def nwS (ρ : RwQ) (π : PnQ) : Int32 := nI (sumNQ (pdB ρ π) (ρ 37)) - nI (sumNQ (wkB ρ π) (ρ 37))
theorem pd0 {π : PnQ} {k : Nat} (h : π.2.1 k = 0) : pdB ρ π k = 0 ∧ wkB ρ π k = 0 := by
  unfold pdB wkB
  rw [if_neg (by omega), if_neg (by omega)]
  exact ⟨rfl, rfl⟩
theorem nI_addsub (a b c d : Nat) : (nI a - nI b) + (nI c - nI d) = nI (a + c) - nI (b + d) := by
  rw [← nI_add, ← nI_add]
  rw [Int32.sub_eq_add_neg, Int32.sub_eq_add_neg, Int32.sub_eq_add_neg, Int32.neg_add, Int32.sub_eq_add_neg]
  ac_rfl
theorem nwS_1 (hW : WF ρ) {π : PnQ} {k : Nat} (hk : k < ρ 37) (h0 : π.2.1 k = 0) : nwS ρ π + (nI (pdB ρ (plc1 ρ k π) k) - nI (wkB ρ (plc1 ρ k π) k)) = nwS ρ (plc1 ρ k π) := by
  obtain ⟨z1, z2⟩ := pd0 (ρ := ρ) h0
  have u1 := sumN_up (f := pdB ρ (plc1 ρ k π)) (g := pdB ρ π) (n := ρ 37) (k := k) hk (fun i hi hne => (plc1_ne hW hk hne hi).2.1)
  have u2 := sumN_up (f := wkB ρ (plc1 ρ k π)) (g := wkB ρ π) (n := ρ 37) (k := k) hk (fun i hi hne => (plc1_ne hW hk hne hi).2.2)
  unfold nwS
  rw [nI_addsub]
  congr 2
  · omega
  · omega
theorem val_ne {π : PnQ} {k : Nat} (hW : WF ρ) (hI : PI ρ π) (hk : k < ρ 37) : ¬ nI (pdB ρ π k) - nI (wkB ρ π k) = (-99999999 : Int32) := by
  intro e
  have h1 := pdB_le hW hI hk
  have h2 := wkB_le (π := π) hW hk
  have := congrArg Int32.toInt e
  rw [pk_sub_toInt (by omega) (by omega)] at this
  have e2 : (-99999999 : Int32).toInt = -99999999 := by decide
  rw [e2] at this
  omega
def StH (xs : Nat → Int32) (L n k : Nat) (a : Int32 × Int32 × (Nat → Nat → Int32)) : Prop := a.1 = nwS (rwF xs L) (plB (rwF xs L) n (plN (rwF xs L) n) k) ∧ a.2.1 = nI k ∧ HD a.2.2 (plB (rwF xs L) n (plN (rwF xs L) n) k).1
theorem bk7 : ∀ k, k ≤ 16 → ∀ b, b < k → bkv (rwB xs L k) b 7 = 0 := by
  intro k
  induction k with
  | zero => intro _ b hb; omega
  | succ k ih =>
    intro hk b hb
    have e := rwB_37 (xs := xs) (L := L) k (by omega)
    have hE := lyK_ext (xs := xs) (L := L) (k := k) (by omega)
    show bkv (cms (lyK xs L (rwB xs L k) k) k) b 7 = _
    rw [(cms_same (by omega)).2 b 7 (by omega) (by omega)]
    by_cases q : b = k
    · subst q
      have t : bkv (lyK xs L (rwB xs L b) b) (rwB xs L b 37) 7 = _ := lyT_bk (by omega)
      rw [layB_bk (by omega), if_pos rfl, e] at t
      rw [t]
      rfl
    · rw [hE.2.2.1 b 7 (by omega) (by omega)]
      exact ih (by omega) b (by omega)
theorem stage_l (hL : L ≤ 260) (h1 : I1 σ (rwF xs L)) (h3 : I3 (rwF xs L)) (hA : acK xs L (qB xs L) ac) {n k : Nat} (hn : n < 30) (hk : k < qB xs L) {a : Int32 × Int32 × (Nat → Nat → Int32)} {w1 : Int32} {w3 : Nat → Nat → Int32} (hI : StH xs L n k a) : ∃ a2, stL_isHostel_25 xs L ac (w1, nI n, w3) σ a = some (.inl a2) ∧ StH xs L n (k + 1) a2 := by
  have hB := qB_rng (xs := xs) (L := L)
  have Q : RQ xs L (rwF xs L) := rwB_RQ
  have hk37 : k < rwF xs L 37 := by rw [F_37]; exact hk
  obtain ⟨as, ai, ah⟩ := a
  obtain ⟨i1, i2, i3⟩ := hI
  try dsimp only at i1 i2 i3
  subst i2
  have hb := RQ_bk Q hk37
  have hle := stK_le hk
  have hst : ac k = nI (stK xs L k) := by rw [hA k]; exact if_pos hk
  have ek : nI k + (1 : Int32) = nI (k + 1) := nI_add _ _
  have h7 : bkv (rwF xs L) k 7 = 0 := bk7 (qB xs L) (by omega) k hk
  have h8 : bkv (rwF xs L) k 8 = stK xs L k := rfl
  have eB : plB (rwF xs L) n (plN (rwF xs L) n) (k + 1) = if isPl (rwF xs L) k n = true then plc1 (rwF xs L) k (plB (rwF xs L) n (plN (rwF xs L) n) k) else plB (rwF xs L) n (plN (rwF xs L) n) k := rfl
  have skip : isPl (rwF xs L) k n = false → StH xs L n (k + 1) (as, nI (k + 1), ah) := fun z => by
    unfold StH
    rw [eB, if_neg (by rw [z]; decide)]
    exact ⟨i1, rfl, i3⟩
  unfold stL_isHostel_25
  rw [bookingsOf_h hL, Option.bind_some]
  try dsimp only
  rw [if_neg (nI_ge hk (by omega)), gd_inb (by omega) (by omega), nI_clamp (by omega), hst, ek]
  have hc : stK xs L k = 0 ∨ stK xs L k = 1 := by omega
  rcases hc with hc | hc
  · rw [hc, if_pos (show nI 0 = (0 : Int32) from rfl)]
    exact ⟨_, rfl, skip (decide_eq_false (by omega))⟩
  · rw [hc, if_neg (by decide), show fL_booking xs L (nI k) (0 : Int32) = some (nI (bkv (rwF xs L) k 0)) from bookR_h hL Q hk37 (i := 0) (by omega), Option.bind_some]
    by_cases q : bkv (rwF xs L) k 0 = n
    · have hp : isPl (rwF xs L) k n = true := decide_eq_true ⟨by omega, h7, q⟩
      rw [if_pos (by rw [q])]
      have h17 : rwF xs L 37 ≤ 17 := by rw [F_37]; omega
      have hPB : PBQ (plB (rwF xs L) n (plN (rwF xs L) n) k) := PB_plB h3.1.1 (PB_plN h3.1 n) k (by omega)
      have SB := SmB_plc h3.1 hk37 hn hp
      have h0 : (plB (rwF xs L) n (plN (rwF xs L) n) k).2.1 k = 0 := plB_0 (plN_seen (rwF xs L) n) hp
      have hPI : PI (rwF xs L) (plB (rwF xs L) n (plN (rwF xs L) n) k) := PI_plB h3.1 (PI_plN h3.1 n) (plN_seen (rwF xs L) n) k (by omega)
      have hPI1 := PI_plc1 h3.1 hPI hk37 h0
      obtain ⟨hd2, m1, m2⟩ := placed_l hL Q h3.1 h1 h3 hk37 hPB SB i3
      rw [m1, Option.bind_some]
      try dsimp only
      rw [if_pos (val_ne h3.1 hPI1 hk37)]
      refine ⟨_, rfl, ?_⟩
      unfold StH
      rw [eB, if_pos hp]
      refine ⟨?_, rfl, m2⟩
      show as + _ = _
      rw [i1]
      exact nwS_1 h3.1 hk37 h0
    · rw [if_neg (fun z => q (nI_inj (by omega) (by omega) z))]
      exact ⟨_, rfl, skip (decide_eq_false (fun z => q z.2.2))⟩
def StN (xs : Nat → Int32) (L n : Nat) (a : Int32 × Int32 × (Nat → Nat → Int32)) : Prop := a.1 = nwS (rwF xs L) (plN (rwF xs L) n) ∧ a.2.1 = nI n ∧ HD a.2.2 (plN (rwF xs L) n).1
theorem allN_l (hL : L ≤ 260) (h1 : I1 σ (rwF xs L)) (h3 : I3 (rwF xs L)) (hA : acK xs L (qB xs L) ac) : ∃ hd, loop (stL_isHostel_15 xs L ac σ) 32 ((0 : Int32), (0 : Int32), (fun _ _ => 0)) = some (.inl (netV (rwF xs L), hd)) ∧ HD hd (plc (rwF xs L)).1 := by
  have hB := qB_rng (xs := xs) (L := L)
  obtain ⟨a2, ⟨i1, i2, i3⟩, e⟩ := loop_go (step := stL_isHostel_15 xs L ac σ) (fun n (a : Int32 × Int32 × (Nat → Nat → Int32)) => StN xs L n a) 30 (fun n a hn hI => by
    obtain ⟨as, ai, ah⟩ := a
    obtain ⟨j1, j2, j3⟩ := hI
    try dsimp only at j1 j2 j3
    subst j2
    obtain ⟨b2, ⟨m1, m2, m3⟩, e2⟩ := loop_go (step := stL_isHostel_25 xs L ac (as, nI n, ah) σ) (fun k (a : Int32 × Int32 × (Nat → Nat → Int32)) => StH xs L n k a) (qB xs L) (fun k a hk hI => stage_l hL h1 h3 hA hn hk hI) (9 - qB xs L - 1 + 1) (as, (0 : Int32), ah) ⟨j1, rfl, j3⟩
    obtain ⟨bs, bi, bh⟩ := b2
    try dsimp only at m1 m2 m3
    subst m2
    have e3 : loop (stL_isHostel_25 xs L ac (as, nI n, ah) σ) 9 (as, (0 : Int32), ah) = some (.inl (bs, bh)) := by
      have e9 : 9 = qB xs L + (9 - qB xs L - 1 + 1) := by omega
      rw [e9, e2]
      refine loop_end ?_ _
      unfold stL_isHostel_25
      rw [bookingsOf_h hL, Option.bind_some]
      try dsimp only
      rw [if_pos (nI_le (Nat.le_refl _) (by omega))]
    refine ⟨(bs, nI (n + 1), bh), ?_, ?_⟩
    · unfold stL_isHostel_15
      try dsimp only
      rw [if_neg (show ¬ (30 : Int32) ≤ nI n from fun z => by have := (nI_leI (a := 30) (by omega) (by omega)).mp z; omega), e3, Option.bind_some, Sum.elim_inl, show nI n + (1 : Int32) = nI (n + 1) from nI_add _ _]
    · have eN : plN (rwF xs L) (n + 1) = plB (rwF xs L) n (plN (rwF xs L) n) (rwF xs L 37) := rfl
      unfold StN
      rw [eN, F_37]
      exact ⟨m1, rfl, m3⟩) 2 ((0 : Int32), (0 : Int32), (fun _ _ => 0)) ⟨by
      have z1 : sumNQ (pdB (rwF xs L) (plN (rwF xs L) 0)) (rwF xs L 37) = 0 := sumN_zero (fun k _ => (pd0 rfl).1)
      have z2 : sumNQ (wkB (rwF xs L) (plN (rwF xs L) 0)) (rwF xs L 37) = 0 := sumN_zero (fun k _ => (pd0 rfl).2)
      unfold nwS
      rw [z1, z2]
      rfl, rfl, fun x n _ _ => rfl⟩
  obtain ⟨as, ai, ah⟩ := a2
  try dsimp only at i1 i2 i3
  subst i2
  refine ⟨ah, ?_, i3⟩
  rw [show (32 : Nat) = 30 + 2 from rfl, e]
  refine loop_end ?_ 1
  unfold stL_isHostel_15
  try dsimp only
  rw [if_pos (by decide), i1]
  rfl
theorem sumN_blk (f : Nat → Nat) : ∀ m, sumNQ f (10 * m) = sumNQ (fun r => sumNQ (fun d => f (10 * r + d)) 10) m := by
  intro m
  induction m with
  | zero => rfl
  | succ m ih =>
    rw [show 10 * (m + 1) = 10 * m + 10 by omega, sumN_split, ih]
    rfl
def ocT (ρ : RwQ) (look x : Nat) : Nat := if x < 10 * ρ 4 ∧ (plc ρ).1 (30 * x + look) ≠ 0 then 1 else 0
theorem ocT_le (ρ : RwQ) (look : Nat) (n : Nat) : sumNQ (ocT ρ look) n ≤ n := by
  have := sumN_le (f := ocT ρ look) (c := 1) (n := n) (fun x _ => by unfold ocT; split <;> omega)
  omega
theorem beds_l (hL : L ≤ 260) (h1 : I1 σ (rwF xs L)) (h3 : I3 (rwF xs L)) {look : Nat} (hlook : look < 30) {hd : Nat → Nat → Int32} {net : Int32} (H : HD hd (plc (rwF xs L)).1) : loop (stL_isHostel_113 xs L (nI look) σ (net, hd)) 42 ((0 : Int32), (0 : Int32)) = some (.inl (nI (sumNQ (fun r => tkN (plc (rwF xs L)).1 r look) (rwF xs L 4)))) := by
  have Q : RQ xs L (rwF xs L) := rwB_RQ
  have hl := RQ_le Q
  have hl4 : 1 ≤ rwF xs L 4 ∧ rwF xs L 4 ≤ 4 := hl.1
  have hPI := PI_plc h3.1
  have hPB := plc_PB h3
  obtain ⟨a2, hI, e⟩ := loop_go (step := stL_isHostel_113 xs L (nI look) σ (net, hd)) (fun x (a : Int32 × Int32) => a = (nI (sumNQ (ocT (rwF xs L) look) x), nI x)) 40 (fun x a hx ha => by
    subst ha
    have hoc := ocT_le (rwF xs L) look x
    have ex : nI x + (1 : Int32) = nI (x + 1) := nI_add _ _
    have e10 : nI x / (10 : Int32) = nI (x / 10) := pk_div (d := 10) (by omega) (by omega) (by omega)
    have erm : nI x - nI (x / 10) * (10 : Int32) = nI (x % 10) := by
      rw [show nI (x / 10) * (10 : Int32) = nI (x / 10 * 10) from pk_mul _ _, pk_sub (by omega)]
      congr 1
      omega
    have eS : sumNQ (ocT (rwF xs L) look) (x + 1) = sumNQ (ocT (rwF xs L) look) x + ocT (rwF xs L) look x := rfl
    refine ⟨(nI (sumNQ (ocT (rwF xs L) look) (x + 1)), nI (x + 1)), ?_, rfl⟩
    unfold stL_isHostel_113 jL_isHostel_200
    try dsimp only
    rw [if_neg (show ¬ (40 : Int32) ≤ nI x from fun z => by have := (nI_leI (a := 40) (by omega) (by omega)).mp z; omega), roomsOf_h hL, Option.bind_some, e10, erm, ex]
    by_cases q : qR xs L ≤ x / 10
    · have z : ocT (rwF xs L) look x = 0 := if_neg (fun w => by have := w.1; rw [F_4] at this; omega)
      rw [if_pos (nI_le q (by omega)), eS, z]
      rfl
    · have hr : x / 10 < rwF xs L 4 := by rw [F_4]; omega
      have hm := RQ_rm Q (r := x / 10) hr
      rw [if_neg (fun z => q ((nI_leI (by have := qR_rng (xs := xs) (L := L); omega) (by omega)).mp z)), show fL_room xs L (nI (x / 10)) (1 : Int32) = some (nI (rmv (rwF xs L) (x / 10) 1)) from roomR_h hL Q hr (i := 1) (by omega), Option.bind_some]
      have hm1 : rmv (rwF xs L) (x / 10) 1 ≤ 5 := hm.2.1.2
      by_cases q2 : x % 10 < rmv (rwF xs L) (x / 10) 1
      · have hv := hPB.1 (30 * x + look)
        rw [if_pos (nI_lt q2 (by omega)), q_occupant h1 h3 hr q2 hlook, Option.bind_some, Sum.elim_inl, gd_inb (by omega) (by omega), gd_inb (by omega) (by omega), nI_clamp (by omega), nI_clamp (by omega), show 30 * (10 * (x / 10) + x % 10) + look = 30 * x + look by omega]
        have hxv := H x look hx hlook
        have em : mI ((plc (rwF xs L)).1 (30 * x + look)) = hd x look - (1 : Int32) := by
          rw [hxv]
          unfold mI
          exact (Int32.sub_eq_add_neg _ _).symm
        rw [if_pos em, eS]
        by_cases z : (plc (rwF xs L)).1 (30 * x + look) = 0
        · have z2 : ocT (rwF xs L) look x = 0 := if_neg (fun w => w.2 z)
          have z3 : hd x look ≤ 0 := by rw [hxv, z]; decide
          rw [if_pos z3, z2, nI_z]
        · have z2 : ocT (rwF xs L) look x = 1 := if_pos ⟨by omega, z⟩
          have z3 : ¬ hd x look ≤ 0 := by
            rw [hxv]
            exact fun w => by have := (nI_leI (b := 0) (by omega) (by omega)).mp w; omega
          rw [if_neg z3, z2, show nI (sumNQ (ocT (rwF xs L) look) x) + (1 : Int32) = nI (sumNQ (ocT (rwF xs L) look) x + 1) from nI_add _ _]
      · have h0 : (plc (rwF xs L)).1 (30 * x + look) = 0 := PI_out hPI hlook (fun w => q2 w.2)
        have z : ocT (rwF xs L) look x = 0 := if_neg (fun w => w.2 h0)
        rw [if_neg (fun z => q2 ((nI_ltI (by omega) (by omega)).mp z)), eS, z]
        rfl) 2 ((0 : Int32), (0 : Int32)) rfl
  subst hI
  rw [show (42 : Nat) = 40 + 2 from rfl, e]
  have es : sumNQ (ocT (rwF xs L) look) 40 = sumNQ (fun r => tkN (plc (rwF xs L)).1 r look) (rwF xs L 4) := by
    have s1 : sumNQ (ocT (rwF xs L) look) (10 * rwF xs L 4 + (40 - 10 * rwF xs L 4)) = _ := sumN_split
    rw [show 10 * rwF xs L 4 + (40 - 10 * rwF xs L 4) = 40 by omega] at s1
    have s2 : sumNQ (fun k => ocT (rwF xs L) look (10 * rwF xs L 4 + k)) (40 - 10 * rwF xs L 4) = 0 := sumN_zero (fun k hk => if_neg (fun w => by have := w.1; omega))
    rw [s1, s2, Nat.add_zero, sumN_blk]
    refine sumN_congr (fun r hr => ?_)
    unfold tkN
    refine sumN_congr (fun d hd => ?_)
    unfold ocT b1
    by_cases z : (plc (rwF xs L)).1 (30 * (10 * r + d) + look) = 0
    · rw [if_neg (fun w => w.2 z), if_neg (by simpa using z)]
    · rw [if_pos ⟨by omega, z⟩, if_pos (by simpa using z)]
  rw [← es]
  refine loop_end ?_ 1
  unfold stL_isHostel_113
  try dsimp only
  rw [if_pos (by decide)]
theorem isHostel_l (hL : L ≤ 260) (h1 : I1 σ (rwF xs L)) (h3 : I3 (rwF xs L)) (hA : acK xs L (qB xs L) ac) : fL_isHostel xs L σ ac = some (1 : Int32) := by
  have Q : RQ xs L (rwF xs L) := rwB_RQ
  have hB := qB_rng (xs := xs) (L := L)
  obtain ⟨hd, e1, H⟩ := allN_l hL h1 h3 hA
  obtain ⟨look, hlk⟩ : ∃ look, look = uN (cl xs L 13) % 30 := ⟨_, rfl⟩
  have hlook : look < 30 := by rw [hlk]; exact Nat.mod_lt _ (by omega)
  unfold fL_isHostel jL_isHostel_249
  rw [e1, Option.bind_some, Sum.elim_inl, show fL_cell xs L (13 : Int32) = some (cl xs L 13) from cell_h hL (k := 13) (by omega), Option.bind_some, show fL_part (cl xs L 13) (30 : Int32) = some (nI look) by rw [hlk]; exact part_h _ (n := 30) (by omega) (by omega), Option.bind_some, beds_l hL h1 h3 hlook H, Option.bind_some, Sum.elim_inl, q_net h1, Option.bind_some, if_neg (fun z => z rfl), q_occupied h1 h3 hlook, Option.bind_some, Sum.elim_inl, if_neg (fun z => z rfl), q_booked h1 hlook, Option.bind_some, Sum.elim_inl, booked_h hL Q ac hlook, Option.bind_some]
  have eb : bkd (rwF xs L) look = sumNQ (abT (rwF xs L) ac look) (rwF xs L 37) := by
    show sumNQ (bkdT (rwF xs L) look) (rwF xs L 37) = sumNQ (abT (rwF xs L) ac look) (rwF xs L 37)
    refine sumN_congr (fun i hi => ?_)
    rw [F_37] at hi
    have hle := stK_le (xs := xs) (L := L) (k := i) hi
    have h8 : bkv (rwF xs L) i 8 = stK xs L i := rfl
    unfold bkdT abT
    rw [h8, hA i, if_pos hi]
    by_cases z : stK xs L i = 1
    · rw [z]
      by_cases y : staysQ (rwF xs L) i look = true
      · rw [if_pos ⟨rfl, y⟩, if_pos ⟨by decide, y⟩]
      · rw [if_neg (fun w => y w.2), if_neg (fun w => y w.2)]
    · have : stK xs L i = 0 := by omega
      rw [this, if_neg (fun w => by omega), if_neg (fun w => w.1 rfl)]
  rw [eb, if_neg (fun z => z rfl)]
end
