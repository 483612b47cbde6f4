/-! layer 2, base: what a pure function gives; loops; whole numbers -/
def OkQ {α : Type} (x : Option α) (P : α → Prop) : Prop := ∃ a, x = some a ∧ P a
theorem Ok_some {α : Type} {a : α} {P : α → Prop} (h : P a) : OkQ (some a) P := ⟨a, rfl, h⟩
theorem Ok_bind {α β : Type} {x : Option α} {f : α → Option β} {Q : α → Prop} {P : β → Prop} (hx : OkQ x Q) (hf : ∀ a, Q a → OkQ (f a) P) : OkQ (x.bind f) P := by
  obtain ⟨a, rfl, h⟩ := hx
  exact hf a h
theorem Ok_mono {α : Type} {x : Option α} {Q P : α → Prop} (hx : OkQ x Q) (h : ∀ a, Q a → P a) : OkQ x P := by
  obtain ⟨a, e, q⟩ := hx
  exact ⟨a, e, h a q⟩
theorem Ok_eq {α : Type} {x : Option α} {a : α} (h : OkQ x (fun r => r = a)) : x = some a := by
  obtain ⟨b, e, q⟩ := h
  rw [e, q]
theorem Ok_of {α : Type} {x : Option α} {a : α} {P : α → Prop} (h : x = some a) (p : P a) : OkQ x P := ⟨a, h, p⟩
theorem gd_pos {α : Type} {c : Prop} [Decidable c] {k : Option α} (h : c) : gd c k = k := if_pos h
theorem Ok_gd {α : Type} {c : Prop} [Decidable c] {k : Option α} {P : α → Prop} (h : c) (hk : OkQ k P) : OkQ (gd c k) P := by
  rw [gd_pos h]; exact hk
theorem Ok_ite {α : Type} {c : Prop} [Decidable c] {a b : Option α} {P : α → Prop} (h1 : c → OkQ a P) (h2 : ¬ c → OkQ b P) : OkQ (if c then a else b) P := by
  by_cases h : c
  · rw [if_pos h]; exact h1 h
  · rw [if_neg h]; exact h2 h
theorem bind_of {α β : Type} {x : Option α} {a : α} (h : x = some a) (f : α → Option β) : x.bind f = f a := by rw [h] <;> rfl
/-- a loop with an invariant that counts its rounds -/
theorem loop_Ok {α β : Type} {step : α → Option (α ⊕ β)} (Inv : Nat → α → Prop) {Post : β → Prop} (n : Nat) (h : ∀ k a, k ≤ n → Inv k a → OkQ (step a) (fun r => Sum.elim (fun a2 => k < n ∧ Inv (k + 1) a2) Post r)) : ∀ (m k : Nat) (a : α), k ≤ n → n < k + m → Inv k a → OkQ (loop step m a) Post := by
  intro m
  induction m with
  | zero => intro k a h1 h2 _; omega
  | succ m ih =>
    intro k a h1 h2 hI
    obtain ⟨r, hr, hP⟩ := h k a h1 hI
    unfold loop
    rw [hr]
    cases r with
    | inl a2 => exact ih (k + 1) a2 hP.1 (by omega) hP.2
    | inr b => exact ⟨b, rfl, hP⟩
theorem loop_ok {α β : Type} {step : α → Option (α ⊕ β)} {a : α} {Post : β → Prop} (n : Nat) (Inv : Nat → α → Prop) (hn : n < 5000) (h0 : Inv 0 a) (h : ∀ k a, k ≤ n → Inv k a → OkQ (step a) (fun r => Sum.elim (fun a2 => k < n ∧ Inv (k + 1) a2) Post r)) : OkQ (loop step 5000 a) Post :=
  loop_Ok Inv n h 5000 0 a (Nat.zero_le _) (by omega) h0
/-- a loop whose states are known -/
theorem loop_st {α β : Type} {step : α → Option (α ⊕ β)} {a : α} {b : β} (n : Nat) (st : Nat → α) (hn : n < 5000) (h0 : a = st 0) (hs : ∀ k, k < n → step (st k) = some (.inl (st (k + 1)))) (he : step (st n) = some (.inr b)) : loop step 5000 a = some b := by
  refine Ok_eq (loop_ok n (fun k a => a = st k) hn h0 ?_)
  intro k a hk ha
  subst ha
  by_cases hkn : k = n
  · subst hkn; exact ⟨_, he, rfl⟩
  · exact ⟨_, hs k (by omega), by omega, rfl⟩
/-! whole numbers -/
theorem l_0 : (0 : Int32) = nI 0 := Int32.toBitVec_inj.mp rfl
theorem l_1 : (1 : Int32) = nI 1 := Int32.toBitVec_inj.mp rfl
theorem l_2 : (2 : Int32) = nI 2 := Int32.toBitVec_inj.mp rfl
theorem l_3 : (3 : Int32) = nI 3 := Int32.toBitVec_inj.mp rfl
theorem l_4 : (4 : Int32) = nI 4 := Int32.toBitVec_inj.mp rfl
theorem l_5 : (5 : Int32) = nI 5 := Int32.toBitVec_inj.mp rfl
theorem l_6 : (6 : Int32) = nI 6 := Int32.toBitVec_inj.mp rfl
theorem l_7 : (7 : Int32) = nI 7 := Int32.toBitVec_inj.mp rfl
theorem l_8 : (8 : Int32) = nI 8 := Int32.toBitVec_inj.mp rfl
theorem l_9 : (9 : Int32) = nI 9 := Int32.toBitVec_inj.mp rfl
theorem l_10 : (10 : Int32) = nI 10 := Int32.toBitVec_inj.mp rfl
theorem l_11 : (11 : Int32) = nI 11 := Int32.toBitVec_inj.mp rfl
theorem l_12 : (12 : Int32) = nI 12 := Int32.toBitVec_inj.mp rfl
theorem l_16 : (16 : Int32) = nI 16 := Int32.toBitVec_inj.mp rfl
theorem l_17 : (17 : Int32) = nI 17 := Int32.toBitVec_inj.mp rfl
theorem l_20 : (20 : Int32) = nI 20 := Int32.toBitVec_inj.mp rfl
theorem l_24 : (24 : Int32) = nI 24 := Int32.toBitVec_inj.mp rfl
theorem l_29 : (29 : Int32) = nI 29 := Int32.toBitVec_inj.mp rfl
theorem l_30 : (30 : Int32) = nI 30 := Int32.toBitVec_inj.mp rfl
theorem l_31 : (31 : Int32) = nI 31 := Int32.toBitVec_inj.mp rfl
theorem l_32 : (32 : Int32) = nI 32 := Int32.toBitVec_inj.mp rfl
theorem l_35 : (35 : Int32) = nI 35 := Int32.toBitVec_inj.mp rfl
theorem l_37 : (37 : Int32) = nI 37 := Int32.toBitVec_inj.mp rfl
theorem l_38 : (38 : Int32) = nI 38 := Int32.toBitVec_inj.mp rfl
theorem l_43 : (43 : Int32) = nI 43 := Int32.toBitVec_inj.mp rfl
theorem l_44 : (44 : Int32) = nI 44 := Int32.toBitVec_inj.mp rfl
theorem l_47 : (47 : Int32) = nI 47 := Int32.toBitVec_inj.mp rfl
theorem l_48 : (48 : Int32) = nI 48 := Int32.toBitVec_inj.mp rfl
theorem l_50 : (50 : Int32) = nI 50 := Int32.toBitVec_inj.mp rfl
theorem l_56 : (56 : Int32) = nI 56 := Int32.toBitVec_inj.mp rfl
theorem l_57 : (57 : Int32) = nI 57 := Int32.toBitVec_inj.mp rfl
theorem l_59 : (59 : Int32) = nI 59 := Int32.toBitVec_inj.mp rfl
theorem l_60 : (60 : Int32) = nI 60 := Int32.toBitVec_inj.mp rfl
theorem l_63 : (63 : Int32) = nI 63 := Int32.toBitVec_inj.mp rfl
theorem l_80 : (80 : Int32) = nI 80 := Int32.toBitVec_inj.mp rfl
theorem l_96 : (96 : Int32) = nI 96 := Int32.toBitVec_inj.mp rfl
theorem l_97 : (97 : Int32) = nI 97 := Int32.toBitVec_inj.mp rfl
theorem l_98 : (98 : Int32) = nI 98 := Int32.toBitVec_inj.mp rfl
theorem l_99 : (99 : Int32) = nI 99 := Int32.toBitVec_inj.mp rfl
theorem l_100 : (100 : Int32) = nI 100 := Int32.toBitVec_inj.mp rfl
theorem l_101 : (101 : Int32) = nI 101 := Int32.toBitVec_inj.mp rfl
theorem l_102 : (102 : Int32) = nI 102 := Int32.toBitVec_inj.mp rfl
theorem l_103 : (103 : Int32) = nI 103 := Int32.toBitVec_inj.mp rfl
theorem l_104 : (104 : Int32) = nI 104 := Int32.toBitVec_inj.mp rfl
theorem l_105 : (105 : Int32) = nI 105 := Int32.toBitVec_inj.mp rfl
theorem l_107 : (107 : Int32) = nI 107 := Int32.toBitVec_inj.mp rfl
theorem l_108 : (108 : Int32) = nI 108 := Int32.toBitVec_inj.mp rfl
theorem l_109 : (109 : Int32) = nI 109 := Int32.toBitVec_inj.mp rfl
theorem l_110 : (110 : Int32) = nI 110 := Int32.toBitVec_inj.mp rfl
theorem l_111 : (111 : Int32) = nI 111 := Int32.toBitVec_inj.mp rfl
theorem l_114 : (114 : Int32) = nI 114 := Int32.toBitVec_inj.mp rfl
theorem l_115 : (115 : Int32) = nI 115 := Int32.toBitVec_inj.mp rfl
theorem l_116 : (116 : Int32) = nI 116 := Int32.toBitVec_inj.mp rfl
theorem l_118 : (118 : Int32) = nI 118 := Int32.toBitVec_inj.mp rfl
theorem l_119 : (119 : Int32) = nI 119 := Int32.toBitVec_inj.mp rfl
theorem l_120 : (120 : Int32) = nI 120 := Int32.toBitVec_inj.mp rfl
theorem l_122 : (122 : Int32) = nI 122 := Int32.toBitVec_inj.mp rfl
theorem l_160 : (160 : Int32) = nI 160 := Int32.toBitVec_inj.mp rfl
theorem l_191 : (191 : Int32) = nI 191 := Int32.toBitVec_inj.mp rfl
theorem l_192 : (192 : Int32) = nI 192 := Int32.toBitVec_inj.mp rfl
theorem l_193 : (193 : Int32) = nI 193 := Int32.toBitVec_inj.mp rfl
theorem l_200 : (200 : Int32) = nI 200 := Int32.toBitVec_inj.mp rfl
theorem l_205 : (205 : Int32) = nI 205 := Int32.toBitVec_inj.mp rfl
theorem l_208 : (208 : Int32) = nI 208 := Int32.toBitVec_inj.mp rfl
theorem l_209 : (209 : Int32) = nI 209 := Int32.toBitVec_inj.mp rfl
theorem l_210 : (210 : Int32) = nI 210 := Int32.toBitVec_inj.mp rfl
theorem l_211 : (211 : Int32) = nI 211 := Int32.toBitVec_inj.mp rfl
theorem l_255 : (255 : Int32) = nI 255 := Int32.toBitVec_inj.mp rfl
theorem l_300 : (300 : Int32) = nI 300 := Int32.toBitVec_inj.mp rfl
theorem l_700 : (700 : Int32) = nI 700 := Int32.toBitVec_inj.mp rfl
theorem l_2400 : (2400 : Int32) = nI 2400 := Int32.toBitVec_inj.mp rfl
theorem l_252645135 : (252645135 : Int32) = nI 252645135 := Int32.toBitVec_inj.mp rfl
theorem l_858993459 : (858993459 : Int32) = nI 858993459 := Int32.toBitVec_inj.mp rfl
theorem l_1431655765 : (1431655765 : Int32) = nI 1431655765 := Int32.toBitVec_inj.mp rfl
theorem inb_nI {i n : Nat} (h : i < 2 ^ 31) : inb (nI i) n ↔ i < n := by
  rw [show inb (nI i) n ↔ ¬ (nI i < 0 ∨ n ≤ (nI i).toNatClampNeg) from Iff.rfl, nI_clamp h]
  have := nI_pos h
  constructor
  · intro q; exact Nat.not_le.mp fun w => q (Or.inr w)
  · rintro q (w | w)
    · exact this w
    · omega
theorem inb_n {i n : Nat} (h : i < n) (hn : n < 2 ^ 31) : inb (nI i) n := (inb_nI (by omega)).mpr h
theorem nI_sub1 {n : Nat} (h : 0 < n) : nI n - nI 1 = nI (n - 1) := pk_sub (by omega)
theorem nI_and31 : ∀ k, k < 32 → ((nI k &&& 31).toBitVec.smod 32).toNat = k := by decide +kernel
theorem nI_shr {n k : Nat} (h : n < 2 ^ 31) (hk : k < 32) : nI n >>> (nI k &&& 31) = nI (n / 2 ^ k) := pk_shrN h _ k (nI_and31 k hk)
theorem nI_shl {n k : Nat} (hk : k < 32) (h : n * 2 ^ k < 2 ^ 32) : nI n <<< (nI k &&& 31) = nI (n * 2 ^ k) := pk_shlN _ k (nI_and31 k hk) h
theorem nI_and1 {n : Nat} (h : n < 2 ^ 32) : nI n &&& nI 1 = nI (n % 2) := pk_andN h 1 rfl
theorem nI_bit {n k : Nat} (h : n < 2 ^ 31) (hk : k < 32) : (nI n >>> (nI k &&& 31)) &&& nI 1 = nI (n / 2 ^ k % 2) := by
  rw [nI_shr h hk, nI_and1 (Nat.lt_of_le_of_lt (Nat.div_le_self _ _) (by omega))]
theorem nI_inj {a b : Nat} (ha : a < 2 ^ 31) (hb : b < 2 ^ 31) (h : nI a = nI b) : a = b := (nI_eq ha hb).mp h
theorem nI_ne {a b : Nat} (ha : a < 2 ^ 31) (hb : b < 2 ^ 31) (h : a ≠ b) : ¬ nI a = nI b := fun q => h (nI_inj ha hb q)
theorem nI_m1 {n : Nat} (h : n < 2 ^ 31) : ¬ nI n = -nI 1 := by
  intro q
  have h2 := nI_toInt h
  rw [q] at h2
  have h3 : (-nI 1 : Int32).toInt = -1 := by decide +kernel
  omega
/-! sums and the like -/
def sumNQ (f : Nat → Nat) : Nat → Nat
  | 0 => 0
  | n + 1 => sumNQ f n + f n
theorem sumN_congr {f g : Nat → Nat} : ∀ {n : Nat}, (∀ k, k < n → f k = g k) → sumNQ f n = sumNQ g n := by
  intro n
  induction n with
  | zero => intro _; rfl
  | succ n ih => intro h; show sumNQ f n + f n = sumNQ g n + g n; rw [ih (fun k hk => h k (by omega)), h n (by omega)]
theorem sumN_le {f : Nat → Nat} {c : Nat} : ∀ {n : Nat}, (∀ k, k < n → f k ≤ c) → sumNQ f n ≤ c * n := by
  intro n
  induction n with
  | zero => intro _; exact Nat.zero_le _
  | succ n ih =>
    intro h
    have h1 := ih (fun k hk => h k (by omega))
    have h2 := h n (by omega)
    show sumNQ f n + f n ≤ c * (n + 1)
    rw [Nat.mul_add]
    omega
theorem sumN_mono {f : Nat → Nat} {n m : Nat} (h : n ≤ m) : sumNQ f n ≤ sumNQ f m := by
  induction m with
  | zero => have : n = 0 := by omega
            subst this; exact Nat.le_refl _
  | succ m ih =>
    by_cases hn : n = m + 1
    · subst hn; exact Nat.le_refl _
    · have h1 := ih (by omega)
      show sumNQ f n ≤ sumNQ f m + f m
      omega
theorem sumN_ge {f : Nat → Nat} {n k : Nat} (h : k < n) : f k ≤ sumNQ f n := by
  have h1 : sumNQ f (k + 1) ≤ sumNQ f n := sumN_mono h
  have h2 : sumNQ f (k + 1) = sumNQ f k + f k := rfl
  omega
theorem sumN_zero {f : Nat → Nat} {n : Nat} (h : ∀ k, k < n → f k = 0) : sumNQ f n = 0 := by
  induction n with
  | zero => rfl
  | succ n ih => show sumNQ f n + f n = 0; rw [ih (fun k hk => h k (by omega)), h n (by omega)]
theorem sumN_up {f g : Nat → Nat} {n k : Nat} (hk : k < n) (h : ∀ i, i < n → i ≠ k → f i = g i) : sumNQ f n + g k = sumNQ g n + f k := by
  induction n with
  | zero => omega
  | succ n ih =>
    show sumNQ f n + f n + g k = sumNQ g n + g n + f k
    by_cases hkn : k = n
    · subst hkn
      rw [sumN_congr (f := f) (g := g) (fun i hi => h i (by omega) (by omega))]
      omega
    · have := ih (by omega) (fun i hi => h i (by omega))
      rw [h n (by omega) (by omega)]
      omega
theorem sumN_add {f g : Nat → Nat} {n : Nat} : sumNQ (fun k => f k + g k) n = sumNQ f n + sumNQ g n := by
  induction n with
  | zero => rfl
  | succ n ih => show sumNQ (fun k => f k + g k) n + (f n + g n) = sumNQ f n + f n + (sumNQ g n + g n); omega
theorem sumN_le2 {f g : Nat → Nat} {n : Nat} (h : ∀ k, k < n → f k ≤ g k) : sumNQ f n ≤ sumNQ g n := by
  induction n with
  | zero => exact Nat.le_refl _
  | succ n ih =>
    have h1 := ih (fun k hk => h k (by omega))
    have h2 := h n (by omega)
    show sumNQ f n + f n ≤ sumNQ g n + g n
    omega
theorem sumN_split {f : Nat → Nat} {n m : Nat} : sumNQ f (n + m) = sumNQ f n + sumNQ (fun k => f (n + k)) m := by
  induction m with
  | zero => rfl
  | succ m ih => show sumNQ f (n + m) + f (n + m) = sumNQ f n + (sumNQ (fun k => f (n + k)) m + f (n + m)); omega
/-- the first one below n, or n -/
def fstF (p : Nat → Bool) : Nat → Nat → Nat
  | 0, k => k
  | m + 1, k => if p k = true then k else fstF p m (k + 1)
def fstN (p : Nat → Bool) (n : Nat) : Nat := fstF p n 0
theorem fstF_spec (p : Nat → Bool) : ∀ (m k : Nat), k ≤ fstF p m k ∧ fstF p m k ≤ k + m ∧ (∀ i, k ≤ i → i < fstF p m k → p i = false) ∧ (fstF p m k < k + m → p (fstF p m k) = true) := by
  intro m
  induction m with
  | zero => intro k; exact ⟨Nat.le_refl _, Nat.le_refl _, fun i h1 h2 => absurd h2 (Nat.not_lt.mpr h1), fun h => absurd h (Nat.lt_irrefl _)⟩
  | succ m ih =>
    intro k
    unfold fstF
    by_cases h : p k = true
    · rw [if_pos h]
      exact ⟨Nat.le_refl _, by omega, fun i h1 h2 => absurd h2 (Nat.not_lt.mpr h1), fun _ => h⟩
    · rw [if_neg h]
      obtain ⟨h1, h2, h3, h4⟩ := ih (k + 1)
      refine ⟨by omega, by omega, ?_, fun q => h4 (by omega)⟩
      intro i hi hi2
      by_cases hik : i = k
      · subst hik; simpa using h
      · exact h3 i (by omega) hi2
theorem fstN_le (p : Nat → Bool) (n : Nat) : fstN p n ≤ n := by have := (fstF_spec p n 0).2.1; unfold fstN; omega
theorem fstN_no {p : Nat → Bool} {n i : Nat} (h : i < fstN p n) : p i = false := (fstF_spec p n 0).2.2.1 i (Nat.zero_le _) h
theorem fstN_yes {p : Nat → Bool} {n : Nat} (h : fstN p n < n) : p (fstN p n) = true := (fstF_spec p n 0).2.2.2 (by unfold fstN at h; omega)
theorem fstN_eq {p : Nat → Bool} {n k : Nat} (h1 : k ≤ n) (h2 : ∀ i, i < k → p i = false) (h3 : k < n → p k = true) : fstN p n = k := by
  have a := fstN_le p n
  rcases Nat.lt_trichotomy (fstN p n) k with h | h | h
  · have := fstN_yes (p := p) (n := n) (by omega)
    rw [h2 _ h] at this; cases this
  · exact h
  · have := fstN_no h
    rw [h3 (by omega)] at this; cases this
theorem fstN_lt {p : Nat → Bool} {n i : Nat} (hi : i < n) (h : p i = true) : fstN p n ≤ i := by
  rcases Nat.lt_or_ge i (fstN p n) with q | q
  · rw [fstN_no q] at h; cases h
  · exact q
theorem fstN_congr {p q : Nat → Bool} {n : Nat} (h : ∀ i, i < n → p i = q i) : fstN p n = fstN q n :=
  fstN_eq (fstN_le q n) (fun i hi => by rw [h i (by have := fstN_le q n; omega)]; exact fstN_no hi) (fun hlt => by rw [h _ hlt]; exact fstN_yes hlt)
/-- bitsQ -/
def b1 (p : Bool) : Nat := if p = true then 1 else 0
