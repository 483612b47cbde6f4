/-! p47, layer 2: what the script's cells say -/
def cl (xs : Nat → Int32) (L k : Nat) : Int32 := if k < L then xs k else nI 0
def uN (v : Int32) : Nat := v.toBitVec.toNat % 2 ^ 31
def sh (v : Int32) (k : Nat) : Nat := uN (v >>> (nI k &&& 31))
def qR (xs : Nat → Int32) (L : Nat) : Nat := 1 + uN (cl xs L 0) % 4
def qS (xs : Nat → Int32) (L i : Nat) : Nat := if i = 0 then sh (cl xs L 0) 3 % 40 else if i = 1 then sh (cl xs L 0) 9 % 200 else if i = 2 then 2 + sh (cl xs L 0) 17 % 10 else sh (cl xs L 0) 21 % 51
def qM (xs : Nat → Int32) (L r w : Nat) : Nat := if w = 0 then uN (cl xs L (1 + r)) % 3 else if w = 1 then 1 + sh (cl xs L (1 + r)) 2 % 5 else if w = 2 then 9 * (sh (cl xs L (1 + r)) 5 % 3) else 5 + sh (cl xs L (1 + r)) 8 % 60
def qB (xs : Nat → Int32) (L : Nat) : Nat := uN (cl xs L 5) % 8
def qF (xs : Nat → Int32) (L b : Nat) : Nat := uN (cl xs L (6 + b)) % 30
def qW (xs : Nat → Int32) (L b : Nat) : Nat := sh (cl xs L (6 + b)) 8 % 4
def mn8 (n : Nat) : Nat := if n < 8 then n else 8
def qK (xs : Nat → Int32) (L b w : Nat) : Nat := if w = 0 then qF xs L b else if w = 1 then 1 + sh (cl xs L (6 + b)) 5 % mn8 (30 - qF xs L b) else if w = 2 then qW xs L b else if w = 3 then (if qW xs L b = 0 then 1 + sh (cl xs L (6 + b)) 11 % 4 else sh (cl xs L (6 + b)) 11 % 4) else if w = 4 then sh (cl xs L (6 + b)) 14 % 30 else if w = 5 then sh (cl xs L (6 + b)) 19 % 101 else (if sh (cl xs L (6 + b)) 26 % 4 = 0 then 1 else 0)
theorem part_h (v : Int32) {n : Nat} (h0 : 0 < n) (hn : n < 2 ^ 31) : fL_part v (nI n) = some (nI (uN v % n)) := by
  unfold fL_part
  show gd (¬ nI n = nI 0) _ = _
  rw [gd_pos (nI_ne (b := 0) hn (by omega) (by omega)), pk_and v 31 rfl, pk_rem (Nat.mod_lt _ (by omega)) h0 hn]
  rfl
theorem nI_two {a b : Int32} {k : Nat} (h : a = b) (k2 : b = nI k) : a = nI k := h.trans k2
section
variable {xs : Nat → Int32} {L : Nat}
theorem cell_h (hL : L ≤ 260) {k : Nat} (hk : k < 1000) : fL_cell xs L (nI k) = some (cl xs L k) := by
  unfold fL_cell cl
  by_cases h : k < L
  · have h1 : ¬ Int32.ofNat L ≤ nI k := fun q => by have := (nI_leI (by omega) (by omega)).mp q; omega
    rw [if_neg h1, if_pos h, gd_inb h (by omega), nI_clamp (by omega)]
  · have h1 : Int32.ofNat L ≤ nI k := (nI_leI (by omega) (by omega)).mpr (by omega)
    rw [if_pos h1, if_neg h]
    rfl
theorem roomsOf_h (hL : L ≤ 260) : fL_roomsOf xs L = some (nI (qR xs L)) := by
  unfold fL_roomsOf
  rw [show (0 : Int32) = nI 0 from rfl, cell_h hL (by omega), Option.bind_some, show (4 : Int32) = nI 4 from rfl, part_h _ (by omega) (by omega), Option.bind_some]
  show some (nI 1 + nI _) = _
  rw [nI_add]
  rfl
theorem bookingsOf_h (hL : L ≤ 260) : fL_bookingsOf xs L = some (nI (qB xs L)) := by
  unfold fL_bookingsOf
  rw [show (5 : Int32) = nI 5 from rfl, cell_h hL (by omega), Option.bind_some, show (8 : Int32) = nI 8 from rfl, part_h _ (by omega) (by omega), Option.bind_some]
  rfl
theorem setting_h (hL : L ≤ 260) {i : Nat} (hi : i < 4) : fL_setting xs L (nI i) = some (nI (qS xs L i)) := by
  unfold fL_setting
  rw [show (0 : Int32) = nI 0 from rfl, cell_h hL (by omega), Option.bind_some]
  match i, hi with
  | 0, _ =>
    rw [if_neg (by decide), show (40 : Int32) = nI 40 from rfl, part_h _ (by omega) (by omega), Option.bind_some]
    rfl
  | 1, _ =>
    rw [if_pos (by decide), if_neg (by decide), show (200 : Int32) = nI 200 from rfl, part_h _ (by omega) (by omega), Option.bind_some]
    rfl
  | 2, _ =>
    rw [if_pos (by decide), if_pos (by decide), if_neg (by decide), show (10 : Int32) = nI 10 from rfl, part_h _ (by omega) (by omega), Option.bind_some]
    show some (nI 2 + nI _) = _
    rw [nI_add]
    rfl
  | 3, _ =>
    rw [if_pos (by decide), if_pos (by decide), if_pos (by decide), show (51 : Int32) = nI 51 from rfl, part_h _ (by omega) (by omega), Option.bind_some]
    rfl
theorem room_h (hL : L ≤ 260) {r i : Nat} (hr : r < 100) (hi : i < 4) : fL_room xs L (nI r) (nI i) = some (nI (qM xs L r i)) := by
  unfold fL_room
  rw [show (1 : Int32) + nI r = nI (1 + r) from nI_add _ _, cell_h hL (by omega), Option.bind_some]
  match i, hi with
  | 0, _ =>
    rw [if_neg (by decide), show (3 : Int32) = nI 3 from rfl, part_h _ (by omega) (by omega), Option.bind_some]
    rfl
  | 1, _ =>
    rw [if_pos (by decide), if_neg (by decide), show (5 : Int32) = nI 5 from rfl, part_h _ (by omega) (by omega), Option.bind_some]
    show some (nI 1 + nI _) = _
    rw [nI_add]
    rfl
  | 2, _ =>
    rw [if_pos (by decide), if_pos (by decide), if_neg (by decide), show (3 : Int32) = nI 3 from rfl, part_h _ (by omega) (by omega), Option.bind_some]
    show some (nI 9 * nI _) = _
    rw [pk_mul]
    rfl
  | 3, _ =>
    rw [if_pos (by decide), if_pos (by decide), if_pos (by decide), show (60 : Int32) = nI 60 from rfl, part_h _ (by omega) (by omega), Option.bind_some]
    show some (nI 5 + nI _) = _
    rw [nI_add]
    rfl
theorem qF_lt (b : Nat) : qF xs L b < 30 := Nat.mod_lt _ (by omega)
theorem qW_lt (b : Nat) : qW xs L b < 4 := Nat.mod_lt _ (by omega)
theorem mn8_h {n : Nat} (h1 : 1 ≤ n) : 1 ≤ mn8 n ∧ mn8 n ≤ 8 ∧ mn8 n ≤ n := by
  unfold mn8
  split <;> omega
theorem booking_h (hL : L ≤ 260) {b i : Nat} (hb : b < 100) (hi : i < 7) : fL_booking xs L (nI b) (nI i) = some (nI (qK xs L b i)) := by
  have hF := qF_lt (xs := xs) (L := L) b
  have hW := qW_lt (xs := xs) (L := L) b
  have hm := mn8_h (n := 30 - qF xs L b) (by omega)
  unfold fL_booking
  rw [show (6 : Int32) + nI b = nI (6 + b) from nI_add _ _, cell_h hL (by omega), Option.bind_some, show (30 : Int32) = nI 30 from rfl, part_h _ (by omega) (by omega), Option.bind_some, show (4 : Int32) = nI 4 from rfl, part_h _ (by omega) (by omega), Option.bind_some]
  match i, hi with
  | 0, _ =>
    rw [if_pos (by decide)]
    rfl
  | 1, _ =>
    rw [if_neg (by decide), if_pos (by decide)]
    have e : (if nI 30 - nI (uN (cl xs L (6 + b)) % 30) < (8 : Int32) then nI 30 - nI (uN (cl xs L (6 + b)) % 30) else (8 : Int32)) = nI (mn8 (30 - qF xs L b)) := by
      show (if nI 30 - nI (qF xs L b) < nI 8 then nI 30 - nI (qF xs L b) else nI 8) = _
      rw [pk_sub (by omega)]
      unfold mn8
      by_cases h : 30 - qF xs L b < 8
      · rw [if_pos ((nI_ltI (by omega) (by omega)).mpr h), if_pos h]
      · rw [if_neg (fun q => h ((nI_ltI (by omega) (by omega)).mp q)), if_neg h]
    rw [e, part_h _ (by omega) (by omega), Option.bind_some]
    show some (nI 1 + nI _) = _
    rw [nI_add]
    rfl
  | 2, _ =>
    rw [if_neg (by decide), if_neg (by decide), if_pos (by decide)]
    rfl
  | 3, _ =>
    rw [if_neg (by decide), if_neg (by decide), if_neg (by decide), if_pos (by decide)]
    show (if ¬ nI (qW xs L b) = nI 0 then _ else _) = some (nI (if qW xs L b = 0 then 1 + sh (cl xs L (6 + b)) 11 % 4 else sh (cl xs L (6 + b)) 11 % 4))
    by_cases h : qW xs L b = 0
    · rw [if_neg (fun q => q (by rw [h])), if_pos h, part_h _ (by omega) (by omega), Option.bind_some]
      show some (nI 1 + nI _) = _
      rw [nI_add]
      rfl
    · rw [if_pos (nI_ne (by omega) (by omega) h), if_neg h, part_h _ (by omega) (by omega), Option.bind_some]
      rfl
  | 4, _ =>
    rw [if_neg (by decide), if_neg (by decide), if_neg (by decide), if_neg (by decide), if_pos (by decide), part_h _ (by omega) (by omega), Option.bind_some]
    rfl
  | 5, _ =>
    rw [if_neg (by decide), if_neg (by decide), if_neg (by decide), if_neg (by decide), if_neg (by decide), if_pos (by decide), show (101 : Int32) = nI 101 from rfl, part_h _ (by omega) (by omega), Option.bind_some]
    rfl
  | 6, _ =>
    rw [if_neg (by decide), if_neg (by decide), if_neg (by decide), if_neg (by decide), if_neg (by decide), if_neg (by decide), part_h _ (by omega) (by omega), Option.bind_some]
    show (if ¬ nI (sh (cl xs L (6 + b)) 26 % 4) = nI 0 then _ else _) = some (nI (if sh (cl xs L (6 + b)) 26 % 4 = 0 then 1 else 0))
    have h4 : sh (cl xs L (6 + b)) 26 % 4 < 4 := Nat.mod_lt _ (by omega)
    by_cases h : sh (cl xs L (6 + b)) 26 % 4 = 0
    · rw [if_neg (fun q => q (by rw [h])), if_pos h]
      rfl
    · rw [if_pos (nI_ne (by omega) (by omega) h), if_neg h]
      rfl
theorem qR_rng : 1 ≤ qR xs L ∧ qR xs L ≤ 4 := by
  have : uN (cl xs L 0) % 4 < 4 := Nat.mod_lt _ (by omega)
  unfold qR
  omega
theorem qB_rng : qB xs L ≤ 7 := by
  have : uN (cl xs L 5) % 8 < 8 := Nat.mod_lt _ (by omega)
  unfold qB
  omega
theorem qS_rng : qS xs L 0 < 40 ∧ qS xs L 1 < 200 ∧ (2 ≤ qS xs L 2 ∧ qS xs L 2 ≤ 11) ∧ qS xs L 3 ≤ 50 := by
  have h0 : qS xs L 0 < 40 := Nat.mod_lt _ (by omega)
  have h1 : qS xs L 1 < 200 := Nat.mod_lt _ (by omega)
  have h2 : sh (cl xs L 0) 17 % 10 < 10 := Nat.mod_lt _ (by omega)
  have h3 : qS xs L 3 < 51 := Nat.mod_lt _ (by omega)
  have e2 : qS xs L 2 = 2 + sh (cl xs L 0) 17 % 10 := rfl
  omega
theorem qM_rng (r : Nat) : qM xs L r 0 ≤ 2 ∧ (1 ≤ qM xs L r 1 ∧ qM xs L r 1 ≤ 5) ∧ qM xs L r 2 ≤ 18 ∧ (5 ≤ qM xs L r 3 ∧ qM xs L r 3 ≤ 64) := by
  have h0 : qM xs L r 0 < 3 := Nat.mod_lt _ (by omega)
  have h1 : sh (cl xs L (1 + r)) 2 % 5 < 5 := Nat.mod_lt _ (by omega)
  have h2 : sh (cl xs L (1 + r)) 5 % 3 < 3 := Nat.mod_lt _ (by omega)
  have h3 : sh (cl xs L (1 + r)) 8 % 60 < 60 := Nat.mod_lt _ (by omega)
  have e1 : qM xs L r 1 = 1 + sh (cl xs L (1 + r)) 2 % 5 := rfl
  have e2 : qM xs L r 2 = 9 * (sh (cl xs L (1 + r)) 5 % 3) := rfl
  have e3 : qM xs L r 3 = 5 + sh (cl xs L (1 + r)) 8 % 60 := rfl
  omega
theorem qK_rng (b : Nat) : qK xs L b 0 < 30 ∧ (1 ≤ qK xs L b 1 ∧ qK xs L b 1 ≤ 8 ∧ qK xs L b 0 + qK xs L b 1 ≤ 30) ∧ qK xs L b 2 ≤ 3 ∧ (qK xs L b 3 ≤ 4 ∧ 1 ≤ qK xs L b 2 + qK xs L b 3 ∧ qK xs L b 2 + qK xs L b 3 ≤ 6) ∧ qK xs L b 4 < 30 ∧ qK xs L b 5 ≤ 100 ∧ qK xs L b 6 ≤ 1 := by
  have hF := qF_lt (xs := xs) (L := L) b
  have hW := qW_lt (xs := xs) (L := L) b
  have hm := mn8_h (n := 30 - qF xs L b) (by omega)
  have e0 : qK xs L b 0 = qF xs L b := rfl
  have e1 : qK xs L b 1 = 1 + sh (cl xs L (6 + b)) 5 % mn8 (30 - qF xs L b) := rfl
  have h1 : sh (cl xs L (6 + b)) 5 % mn8 (30 - qF xs L b) < mn8 (30 - qF xs L b) := Nat.mod_lt _ (by omega)
  have e2 : qK xs L b 2 = qW xs L b := rfl
  have e3 : qK xs L b 3 = (if qW xs L b = 0 then 1 + sh (cl xs L (6 + b)) 11 % 4 else sh (cl xs L (6 + b)) 11 % 4) := rfl
  have h3 : sh (cl xs L (6 + b)) 11 % 4 < 4 := Nat.mod_lt _ (by omega)
  have h4 : qK xs L b 4 < 30 := Nat.mod_lt _ (by omega)
  have h5 : qK xs L b 5 < 101 := Nat.mod_lt _ (by omega)
  have h6 : qK xs L b 6 ≤ 1 := by
    show (if sh (cl xs L (6 + b)) 26 % 4 = 0 then 1 else 0) ≤ 1
    split <;> omega
  refine ⟨by omega, by omega, by omega, ?_, h4, by omega, h6⟩
  rw [e3]
  split <;> omega
end
