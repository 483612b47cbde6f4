/-! the world of the class, the reference and the law: cells by kinds, a memory by keys (written by wip/gen/world.py) -/
abbrev Mem : Type := (Nat → Nat → Nat → Int32) × (Nat → Nat → Nat → Int64) × (Nat → Nat → Nat → UInt64) × (Nat → Nat)
def rI (σ : Mem) (k j r : Nat) : Int32 := σ.1 k j r
def rJ (σ : Mem) (k j r : Nat) : Int64 := σ.2.1 k j r
def rD (σ : Mem) (k j r : Nat) : UInt64 := σ.2.2.1 k j r
def rP (σ : Mem) (k : Nat) : Nat := σ.2.2.2 k
def wI (σ : Mem) (k j r : Nat) (v : Int32) : Mem := (fun a b c => if a = k ∧ b = j ∧ c = r then v else σ.1 a b c, σ.2.1, σ.2.2.1, σ.2.2.2)
def wJ (σ : Mem) (k j r : Nat) (v : Int64) : Mem := (σ.1, fun a b c => if a = k ∧ b = j ∧ c = r then v else σ.2.1 a b c, σ.2.2.1, σ.2.2.2)
def wD (σ : Mem) (k j r : Nat) (v : UInt64) : Mem := (σ.1, σ.2.1, fun a b c => if a = k ∧ b = j ∧ c = r then v else σ.2.2.1 a b c, σ.2.2.2)
def wP (σ : Mem) (k v : Nat) : Mem := (σ.1, σ.2.1, σ.2.2.1, fun a => if a = k then v else σ.2.2.2 a)
theorem rI_wI (σ : Mem) (k j r k' j' r' : Nat) (v : Int32) : rI (wI σ k j r v) k' j' r' = if k' = k ∧ j' = j ∧ r' = r then v else rI σ k' j' r' := rfl
theorem rI_wI_ne {σ : Mem} {k j r k' j' r' : Nat} {v : Int32} (h : ¬ (k' = k ∧ j' = j ∧ r' = r)) : rI (wI σ k j r v) k' j' r' = rI σ k' j' r' := by rw [rI_wI, if_neg h]
theorem rI_wI_self {σ : Mem} {k j r : Nat} {v : Int32} : rI (wI σ k j r v) k j r = v := by rw [rI_wI, if_pos ⟨rfl, rfl, rfl⟩]
theorem rI_wJ (σ : Mem) (k j r k' j' r' : Nat) (v : Int64) : rI (wJ σ k j r v) k' j' r' = rI σ k' j' r' := rfl
theorem rI_wD (σ : Mem) (k j r k' j' r' : Nat) (v : UInt64) : rI (wD σ k j r v) k' j' r' = rI σ k' j' r' := rfl
theorem rI_wP (σ : Mem) (k k' j' r' v : Nat) : rI (wP σ k v) k' j' r' = rI σ k' j' r' := rfl
theorem rP_wI (σ : Mem) (k j r k' : Nat) (v : Int32) : rP (wI σ k j r v) k' = rP σ k' := rfl
theorem rJ_wJ (σ : Mem) (k j r k' j' r' : Nat) (v : Int64) : rJ (wJ σ k j r v) k' j' r' = if k' = k ∧ j' = j ∧ r' = r then v else rJ σ k' j' r' := rfl
theorem rJ_wJ_ne {σ : Mem} {k j r k' j' r' : Nat} {v : Int64} (h : ¬ (k' = k ∧ j' = j ∧ r' = r)) : rJ (wJ σ k j r v) k' j' r' = rJ σ k' j' r' := by rw [rJ_wJ, if_neg h]
theorem rJ_wJ_self {σ : Mem} {k j r : Nat} {v : Int64} : rJ (wJ σ k j r v) k j r = v := by rw [rJ_wJ, if_pos ⟨rfl, rfl, rfl⟩]
theorem rJ_wI (σ : Mem) (k j r k' j' r' : Nat) (v : Int32) : rJ (wI σ k j r v) k' j' r' = rJ σ k' j' r' := rfl
theorem rJ_wD (σ : Mem) (k j r k' j' r' : Nat) (v : UInt64) : rJ (wD σ k j r v) k' j' r' = rJ σ k' j' r' := rfl
theorem rJ_wP (σ : Mem) (k k' j' r' v : Nat) : rJ (wP σ k v) k' j' r' = rJ σ k' j' r' := rfl
theorem rP_wJ (σ : Mem) (k j r k' : Nat) (v : Int64) : rP (wJ σ k j r v) k' = rP σ k' := rfl
theorem rD_wD (σ : Mem) (k j r k' j' r' : Nat) (v : UInt64) : rD (wD σ k j r v) k' j' r' = if k' = k ∧ j' = j ∧ r' = r then v else rD σ k' j' r' := rfl
theorem rD_wD_ne {σ : Mem} {k j r k' j' r' : Nat} {v : UInt64} (h : ¬ (k' = k ∧ j' = j ∧ r' = r)) : rD (wD σ k j r v) k' j' r' = rD σ k' j' r' := by rw [rD_wD, if_neg h]
theorem rD_wD_self {σ : Mem} {k j r : Nat} {v : UInt64} : rD (wD σ k j r v) k j r = v := by rw [rD_wD, if_pos ⟨rfl, rfl, rfl⟩]
theorem rD_wI (σ : Mem) (k j r k' j' r' : Nat) (v : Int32) : rD (wI σ k j r v) k' j' r' = rD σ k' j' r' := rfl
theorem rD_wJ (σ : Mem) (k j r k' j' r' : Nat) (v : Int64) : rD (wJ σ k j r v) k' j' r' = rD σ k' j' r' := rfl
theorem rD_wP (σ : Mem) (k k' j' r' v : Nat) : rD (wP σ k v) k' j' r' = rD σ k' j' r' := rfl
theorem rP_wD (σ : Mem) (k j r k' : Nat) (v : UInt64) : rP (wD σ k j r v) k' = rP σ k' := rfl
theorem rP_wP (σ : Mem) (k k' v : Nat) : rP (wP σ k v) k' = if k' = k then v else rP σ k' := rfl
def hoff (j : Nat) : Nat := if j < 2 then 3 + 30 * j else 20 + 30 * j
def oHB : Nat := 0
def oIn : Nat := 1
def oText : Nat := 2
def oPast : Nat := 77
def oOdds : Nat := 78
def oSigns : Nat := 79
def oHo (j : Nat) : Nat := hoff j
def oRms (j : Nat) : Nat := hoff j + 1
def oBks (j : Nat) : Nat := hoff j + 2
def oQue (j : Nat) : Nat := hoff j + 3
def oCrd (j : Nat) : Nat := hoff j + 4
def oRm (j r : Nat) : Nat := hoff j + 5 + r
def oBk (j r : Nat) : Nat := hoff j + 13 + r
def oHo2 (k : Nat) : Nat := oHo (k + 2)
def oPl (j : Nat) : Nat := 63 + 7 * j + 0
def oBusy (j : Nat) : Nat := 63 + 7 * j + 1
def oBop (j : Nat) : Nat := 63 + 7 * j + 2
def oOut (j : Nat) : Nat := 63 + 7 * j + 3
def oRb (j : Nat) : Nat := 63 + 7 * j + 4
def oPaid (j : Nat) : Nat := 63 + 7 * j + 5
def oFree (j : Nat) : Nat := 63 + 7 * j + 6
def layH (j : Nat) : List (Nat × Nat × Nat) := [(3, j, 0), (4, j, 0), (5, j, 0), (6, j, 0), (7, j, 0)] ++ (List.range 8).map (fun r => (8, j, r)) ++ (List.range 17).map (fun r => (9, j, r))
def layP (j : Nat) : List (Nat × Nat × Nat) := [(10, j, 0), (11, j, 0), (12, j, 0), (13, j, 0), (14, j, 0), (15, j, 0), (16, j, 0)]
def layL : List (Nat × Nat × Nat) := [(0, 0, 0), (1, 0, 0), (2, 0, 0)] ++ layH 0 ++ layH 1 ++ layP 0 ++ layP 1 ++ [(17, 0, 0), (18, 0, 0), (19, 0, 0)] ++ (List.range 10).flatMap (fun j => layH (j + 2)) 
def NC : Nat := 380
def ofsQ (q : Nat × Nat × Nat) : Nat := match q.1 with
  | 0 => oHB
  | 1 => oIn
  | 2 => oText
  | 3 => oHo q.2.1
  | 4 => oRms q.2.1
  | 5 => oBks q.2.1
  | 6 => oQue q.2.1
  | 7 => oCrd q.2.1
  | 8 => oRm q.2.1 q.2.2
  | 9 => oBk q.2.1 q.2.2
  | 10 => oPl q.2.1
  | 11 => oBusy q.2.1
  | 12 => oBop q.2.1
  | 13 => oOut q.2.1
  | 14 => oRb q.2.1
  | 15 => oPaid q.2.1
  | 16 => oFree q.2.1
  | 17 => oPast
  | 18 => oOdds
  | 19 => oSigns
  | _ => 0
def lay (o : Nat) : Nat × Nat × Nat := layL.getD o (0, 0, 0)
theorem lay_inv : ∀ o, o < 380 → ofsQ (lay o) = o := by decide +kernel
theorem lay_inj {a b : Nat} (ha : a < 380) (hb : b < 380) (h : lay a = lay b) : a = b := by rw [← lay_inv a ha, ← lay_inv b hb, h]
def cellK (cy : Nat → ClassId) (B : Nat) (σ : Mem) (q : Nat × Nat × Nat) : va_E := match q with
  | (0, _, _) => .inr (7, [.ref (B + oIn), .int (rI σ 1 0 0), .ref (B + oHo (rP σ 0)), .ref (B + oHo (rP σ 1)), .ref (B + oPl 0), .ref (B + oPl 1), .ref (B + oPast), .int (rI σ 2 0 0), .int (rI σ 3 0 0), .ref (B + oOdds), .ref (B + oSigns), .int (rI σ 4 0 0)])
  | (1, _, _) => .inr (4, [.ref (B + oText), .int (rI σ 7 0 0), .int (rI σ 8 0 0), .int (rI σ 9 0 0), .int (rI σ 10 0 0), .long (rJ σ 0 0 0), .int (rI σ 11 0 0)])
  | (2, _, _) => .inl (cy 2, 700, .inl (fun k => rI σ 6 0 k))
  | (3, j, _) => .inr (3, [.ref (B + oRms j), .int (rI σ 20 j 0), .int (rI σ 21 j 0), .ref (B + oBks j), .int (rI σ 22 j 0), .ref (B + oQue j), .int (rI σ 23 j 0), .ref (B + oCrd j), .int (rI σ 24 j 0), .int (rI σ 25 j 0), .int (rI σ 26 j 0), .int (rI σ 27 j 0)])
  | (4, j, _) => .inl (cy 5, 8, .inr (.inr (.inr (.inr (fun k => some (B + oRm j k))))))
  | (5, j, _) => .inl (cy 6, 17, .inr (.inr (.inr (.inr (fun k => some (B + oBk j k))))))
  | (6, j, _) => .inl (cy 0, 17, .inl (fun k => rI σ 28 j k))
  | (7, j, _) => .inl (cy 0, 30, .inl (fun k => rI σ 29 j k))
  | (8, j, r) => .inr (6, [.long (rJ σ 1 j r), .int (rI σ 30 j r), .int (rI σ 31 j r), .int (rI σ 32 j r), .int (rI σ 33 j r)])
  | (9, j, r) => .inr (2, [.long (rJ σ 2 j r), .int (rI σ 40 j r), .int (rI σ 41 j r), .int (rI σ 42 j r), .int (rI σ 43 j r), .int (rI σ 44 j r), .int (rI σ 45 j r), .int (rI σ 46 j r), .int (rI σ 47 j r), .int (rI σ 48 j r), .int (rI σ 49 j r)])
  | (10, j, _) => .inr (5, [.ref (B + oBusy j), .ref (B + oBop j), .ref (B + oOut j), .ref (B + oRb j), .ref (B + oPaid j), .int (rI σ 55 j 0), .int (rI σ 56 j 0), .ref (B + oFree j)])
  | (11, j, _) => .inl (cy 0, 80, .inl (fun k => rI σ 50 j k))
  | (12, j, _) => .inl (cy 0, 204, .inl (fun k => rI σ 51 j k))
  | (13, j, _) => .inl (cy 0, 17, .inl (fun k => rI σ 52 j k))
  | (14, j, _) => .inl (cy 0, 17, .inl (fun k => rI σ 53 j k))
  | (15, j, _) => .inl (cy 0, 17, .inl (fun k => rI σ 54 j k))
  | (16, j, _) => .inl (cy 0, 8, .inl (fun k => rI σ 57 j k))
  | (17, _, _) => .inl (cy 7, 10, .inr (.inr (.inr (.inr (fun k => some (B + oHo2 k))))))
  | (18, _, _) => .inl (cy 4, 193, .inr (.inr (.inr (.inl (fun k => rD σ 0 0 k)))))
  | (19, _, _) => .inl (cy 3, 160, .inl (fun k => rI σ 5 0 k))
  | _ => .inr (0, [])
def okq (q : Nat × Nat × Nat) : Bool := match q with
  | (0, a, b) => a == 0 && b == 0
  | (1, a, b) => a == 0 && b == 0
  | (2, a, b) => a == 0 && b == 0
  | (3, a, b) => b == 0
  | (4, a, b) => b == 0
  | (5, a, b) => b == 0
  | (6, a, b) => b == 0
  | (7, a, b) => b == 0
  | (8, a, b) => true
  | (9, a, b) => true
  | (10, a, b) => b == 0
  | (11, a, b) => b == 0
  | (12, a, b) => b == 0
  | (13, a, b) => b == 0
  | (14, a, b) => b == 0
  | (15, a, b) => b == 0
  | (16, a, b) => b == 0
  | (17, a, b) => a == 0 && b == 0
  | (18, a, b) => a == 0 && b == 0
  | (19, a, b) => a == 0 && b == 0
  | _ => false
theorem lay_ok : ∀ o, o < 380 → okq (lay o) = true := by decide +kernel
def wb (cy : Nat → ClassId) (B : Nat) (σ : Mem) : va_W := (List.range 380).map (fun o => (B + o, cellK cy B σ (lay o)))
theorem wb_len {cy : Nat → ClassId} {B : Nat} {σ : Mem} : (wb cy B σ).length = 380 := by simp [wb]
/-- the class's 380 cells, and what the law has made beside them -/
def wl (cy : Nat → ClassId) (B : Nat) (σ : Mem) (Y : va_W) : va_W := wb cy B σ ++ Y
theorem wl_at {cy : Nat → ClassId} {B : Nat} {σ : Mem} {Y : va_W} {o : Nat} (ho : o < 380) : (wl cy B σ Y)[o]? = some (B + o, cellK cy B σ (lay o)) := by unfold wl; rw [List.getElem?_append_left (by rw [wb_len]; exact ho)]; simp [wb, ho]
theorem wl_ex {cy : Nat → ClassId} {B : Nat} {σ : Mem} {Y : va_W} {i : Nat} {q : Nat × va_E} (h : Y[i]? = some q) : (wl cy B σ Y)[380 + i]? = some q := by unfold wl; rw [List.getElem?_append_right (by rw [wb_len]; omega), wb_len, Nat.add_sub_cancel_left]; exact h
theorem wl_exs {cy : Nat → ClassId} {B : Nat} {σ : Mem} {Y Y' : va_W} {i : Nat} {q : Nat × va_E} (h : Y.set i q = Y') : (wl cy B σ Y).set (380 + i) q = wl cy B σ Y' := by unfold wl; rw [List.set_append_right _ _ (by rw [wb_len]; omega), wb_len, Nat.add_sub_cancel_left, h]
theorem wb_D {cy : Nat → ClassId} {B : Nat} {σ : Mem} : va_D (fun q => B ≤ q) (wb cy B σ) := by
  have key : ∀ (i : Nat) (p : Nat × va_E), (wb cy B σ)[i]? = some p → p.1 = B + i := by
    intro i p h
    simp only [wb, List.getElem?_map, Option.map_eq_some_iff] at h
    obtain ⟨a, h1, h2⟩ := h
    have h3 := List.getElem?_eq_some_iff.mp h1
    obtain ⟨h4, h5⟩ := h3
    rw [List.getElem_range] at h5
    subst h5
    rw [← h2]
  refine ⟨fun i j p q hi hj hpq => ?_, fun k q hk => ?_⟩
  · rw [key i p hi, key j q hj] at hpq
    omega
  · rw [key k q hk]
    exact Nat.le_add_right _ _
theorem wb_set {cy : Nat → ClassId} {B : Nat} {σ σ' : Mem} {o : Nat} {e : va_E} (ho : o < 380) (he : e = cellK cy B σ' (lay o)) (hne : ∀ q, okq q = true → q ≠ lay o → cellK cy B σ' q = cellK cy B σ q) : (wb cy B σ).set o (B + o, e) = wb cy B σ' := by
  have ha : ∀ (τ : Mem) (i : Nat), i < 380 → (wb cy B τ)[i]? = some (B + i, cellK cy B τ (lay i)) := fun τ i hi => by simp [wb, hi]
  apply List.ext_getElem?
  intro i
  by_cases hi : i < 380
  · by_cases hio : i = o
    · subst hio
      rw [List.getElem?_set_self (by simpa [wb] using hi), ha _ _ hi, he]
    · rw [List.getElem?_set_ne (fun h => hio h.symm), ha _ _ hi, ha _ _ hi, hne (lay i) (lay_ok i hi) (fun h => hio (lay_inj hi ho h))]
  · rw [List.getElem?_eq_none (by simpa [wb] using Nat.le_of_not_lt hi), List.getElem?_eq_none (by simpa [wb] using Nat.le_of_not_lt hi)]
theorem wl_set {cy : Nat → ClassId} {B : Nat} {σ σ' : Mem} {Y : va_W} {o : Nat} {e : va_E} (ho : o < 380) (he : e = cellK cy B σ' (lay o)) (hne : ∀ q, okq q = true → q ≠ lay o → cellK cy B σ' q = cellK cy B σ q) : (wl cy B σ Y).set o (B + o, e) = wl cy B σ' Y := by
  unfold wl
  rw [List.set_append_left _ _ (by rw [wb_len]; exact ho), wb_set ho he hne]
theorem la_HB : oHB < 380 ∧ lay oHB = (0, 0, 0) := by decide +kernel
theorem la_In : oIn < 380 ∧ lay oIn = (1, 0, 0) := by decide +kernel
theorem la_Text : oText < 380 ∧ lay oText = (2, 0, 0) := by decide +kernel
theorem la_Ho : ∀ j, j < 12 → oHo j < 380 ∧ lay (oHo j) = (3, j, 0) := by decide +kernel
theorem la_Rms : ∀ j, j < 12 → oRms j < 380 ∧ lay (oRms j) = (4, j, 0) := by decide +kernel
theorem la_Bks : ∀ j, j < 12 → oBks j < 380 ∧ lay (oBks j) = (5, j, 0) := by decide +kernel
theorem la_Que : ∀ j, j < 12 → oQue j < 380 ∧ lay (oQue j) = (6, j, 0) := by decide +kernel
theorem la_Crd : ∀ j, j < 12 → oCrd j < 380 ∧ lay (oCrd j) = (7, j, 0) := by decide +kernel
theorem la_Rm : ∀ j, j < 12 → ∀ r, r < 8 → oRm j r < 380 ∧ lay (oRm j r) = (8, j, r) := by decide +kernel
theorem la_Bk : ∀ j, j < 12 → ∀ r, r < 17 → oBk j r < 380 ∧ lay (oBk j r) = (9, j, r) := by decide +kernel
theorem la_Pl : ∀ j, j < 2 → oPl j < 380 ∧ lay (oPl j) = (10, j, 0) := by decide +kernel
theorem la_Busy : ∀ j, j < 2 → oBusy j < 380 ∧ lay (oBusy j) = (11, j, 0) := by decide +kernel
theorem la_Bop : ∀ j, j < 2 → oBop j < 380 ∧ lay (oBop j) = (12, j, 0) := by decide +kernel
theorem la_Out : ∀ j, j < 2 → oOut j < 380 ∧ lay (oOut j) = (13, j, 0) := by decide +kernel
theorem la_Rb : ∀ j, j < 2 → oRb j < 380 ∧ lay (oRb j) = (14, j, 0) := by decide +kernel
theorem la_Paid : ∀ j, j < 2 → oPaid j < 380 ∧ lay (oPaid j) = (15, j, 0) := by decide +kernel
theorem la_Free : ∀ j, j < 2 → oFree j < 380 ∧ lay (oFree j) = (16, j, 0) := by decide +kernel
theorem la_Past : oPast < 380 ∧ lay oPast = (17, 0, 0) := by decide +kernel
theorem la_Odds : oOdds < 380 ∧ lay oOdds = (18, 0, 0) := by decide +kernel
theorem la_Signs : oSigns < 380 ∧ lay oSigns = (19, 0, 0) := by decide +kernel
theorem c_HB {cy : Nat → ClassId} {B : Nat} {σ : Mem} {Y : va_W} : (wl cy B σ Y)[oHB]? = some (B + oHB, .inr (7, [.ref (B + oIn), .int (rI σ 1 0 0), .ref (B + oHo (rP σ 0)), .ref (B + oHo (rP σ 1)), .ref (B + oPl 0), .ref (B + oPl 1), .ref (B + oPast), .int (rI σ 2 0 0), .int (rI σ 3 0 0), .ref (B + oOdds), .ref (B + oSigns), .int (rI σ 4 0 0)])) := by rw [wl_at (la_HB).1, (la_HB).2]; rfl
theorem c_In {cy : Nat → ClassId} {B : Nat} {σ : Mem} {Y : va_W} : (wl cy B σ Y)[oIn]? = some (B + oIn, .inr (4, [.ref (B + oText), .int (rI σ 7 0 0), .int (rI σ 8 0 0), .int (rI σ 9 0 0), .int (rI σ 10 0 0), .long (rJ σ 0 0 0), .int (rI σ 11 0 0)])) := by rw [wl_at (la_In).1, (la_In).2]; rfl
theorem c_Text {cy : Nat → ClassId} {B : Nat} {σ : Mem} {Y : va_W} : (wl cy B σ Y)[oText]? = some (B + oText, .inl (cy 2, 700, .inl (fun k => rI σ 6 0 k))) := by rw [wl_at (la_Text).1, (la_Text).2]; rfl
theorem c_Ho {cy : Nat → ClassId} {B : Nat} {σ : Mem} {Y : va_W} {j : Nat} (hj : j < 12) : (wl cy B σ Y)[oHo j]? = some (B + oHo j, .inr (3, [.ref (B + oRms j), .int (rI σ 20 j 0), .int (rI σ 21 j 0), .ref (B + oBks j), .int (rI σ 22 j 0), .ref (B + oQue j), .int (rI σ 23 j 0), .ref (B + oCrd j), .int (rI σ 24 j 0), .int (rI σ 25 j 0), .int (rI σ 26 j 0), .int (rI σ 27 j 0)])) := by rw [wl_at (la_Ho j hj).1, (la_Ho j hj).2]; rfl
theorem c_Rms {cy : Nat → ClassId} {B : Nat} {σ : Mem} {Y : va_W} {j : Nat} (hj : j < 12) : (wl cy B σ Y)[oRms j]? = some (B + oRms j, .inl (cy 5, 8, .inr (.inr (.inr (.inr (fun k => some (B + oRm j k))))))) := by rw [wl_at (la_Rms j hj).1, (la_Rms j hj).2]; rfl
theorem c_Bks {cy : Nat → ClassId} {B : Nat} {σ : Mem} {Y : va_W} {j : Nat} (hj : j < 12) : (wl cy B σ Y)[oBks j]? = some (B + oBks j, .inl (cy 6, 17, .inr (.inr (.inr (.inr (fun k => some (B + oBk j k))))))) := by rw [wl_at (la_Bks j hj).1, (la_Bks j hj).2]; rfl
theorem c_Que {cy : Nat → ClassId} {B : Nat} {σ : Mem} {Y : va_W} {j : Nat} (hj : j < 12) : (wl cy B σ Y)[oQue j]? = some (B + oQue j, .inl (cy 0, 17, .inl (fun k => rI σ 28 j k))) := by rw [wl_at (la_Que j hj).1, (la_Que j hj).2]; rfl
theorem c_Crd {cy : Nat → ClassId} {B : Nat} {σ : Mem} {Y : va_W} {j : Nat} (hj : j < 12) : (wl cy B σ Y)[oCrd j]? = some (B + oCrd j, .inl (cy 0, 30, .inl (fun k => rI σ 29 j k))) := by rw [wl_at (la_Crd j hj).1, (la_Crd j hj).2]; rfl
theorem c_Rm {cy : Nat → ClassId} {B : Nat} {σ : Mem} {Y : va_W} {j : Nat} (hj : j < 12) {r : Nat} (hr : r < 8) : (wl cy B σ Y)[oRm j r]? = some (B + oRm j r, .inr (6, [.long (rJ σ 1 j r), .int (rI σ 30 j r), .int (rI σ 31 j r), .int (rI σ 32 j r), .int (rI σ 33 j r)])) := by rw [wl_at (la_Rm j hj r hr).1, (la_Rm j hj r hr).2]; rfl
theorem c_Bk {cy : Nat → ClassId} {B : Nat} {σ : Mem} {Y : va_W} {j : Nat} (hj : j < 12) {r : Nat} (hr : r < 17) : (wl cy B σ Y)[oBk j r]? = some (B + oBk j r, .inr (2, [.long (rJ σ 2 j r), .int (rI σ 40 j r), .int (rI σ 41 j r), .int (rI σ 42 j r), .int (rI σ 43 j r), .int (rI σ 44 j r), .int (rI σ 45 j r), .int (rI σ 46 j r), .int (rI σ 47 j r), .int (rI σ 48 j r), .int (rI σ 49 j r)])) := by rw [wl_at (la_Bk j hj r hr).1, (la_Bk j hj r hr).2]; rfl
theorem c_Pl {cy : Nat → ClassId} {B : Nat} {σ : Mem} {Y : va_W} {j : Nat} (hj : j < 2) : (wl cy B σ Y)[oPl j]? = some (B + oPl j, .inr (5, [.ref (B + oBusy j), .ref (B + oBop j), .ref (B + oOut j), .ref (B + oRb j), .ref (B + oPaid j), .int (rI σ 55 j 0), .int (rI σ 56 j 0), .ref (B + oFree j)])) := by rw [wl_at (la_Pl j hj).1, (la_Pl j hj).2]; rfl
theorem c_Busy {cy : Nat → ClassId} {B : Nat} {σ : Mem} {Y : va_W} {j : Nat} (hj : j < 2) : (wl cy B σ Y)[oBusy j]? = some (B + oBusy j, .inl (cy 0, 80, .inl (fun k => rI σ 50 j k))) := by rw [wl_at (la_Busy j hj).1, (la_Busy j hj).2]; rfl
theorem c_Bop {cy : Nat → ClassId} {B : Nat} {σ : Mem} {Y : va_W} {j : Nat} (hj : j < 2) : (wl cy B σ Y)[oBop j]? = some (B + oBop j, .inl (cy 0, 204, .inl (fun k => rI σ 51 j k))) := by rw [wl_at (la_Bop j hj).1, (la_Bop j hj).2]; rfl
theorem c_Out {cy : Nat → ClassId} {B : Nat} {σ : Mem} {Y : va_W} {j : Nat} (hj : j < 2) : (wl cy B σ Y)[oOut j]? = some (B + oOut j, .inl (cy 0, 17, .inl (fun k => rI σ 52 j k))) := by rw [wl_at (la_Out j hj).1, (la_Out j hj).2]; rfl
theorem c_Rb {cy : Nat → ClassId} {B : Nat} {σ : Mem} {Y : va_W} {j : Nat} (hj : j < 2) : (wl cy B σ Y)[oRb j]? = some (B + oRb j, .inl (cy 0, 17, .inl (fun k => rI σ 53 j k))) := by rw [wl_at (la_Rb j hj).1, (la_Rb j hj).2]; rfl
theorem c_Paid {cy : Nat → ClassId} {B : Nat} {σ : Mem} {Y : va_W} {j : Nat} (hj : j < 2) : (wl cy B σ Y)[oPaid j]? = some (B + oPaid j, .inl (cy 0, 17, .inl (fun k => rI σ 54 j k))) := by rw [wl_at (la_Paid j hj).1, (la_Paid j hj).2]; rfl
theorem c_Free {cy : Nat → ClassId} {B : Nat} {σ : Mem} {Y : va_W} {j : Nat} (hj : j < 2) : (wl cy B σ Y)[oFree j]? = some (B + oFree j, .inl (cy 0, 8, .inl (fun k => rI σ 57 j k))) := by rw [wl_at (la_Free j hj).1, (la_Free j hj).2]; rfl
theorem c_Past {cy : Nat → ClassId} {B : Nat} {σ : Mem} {Y : va_W} : (wl cy B σ Y)[oPast]? = some (B + oPast, .inl (cy 7, 10, .inr (.inr (.inr (.inr (fun k => some (B + oHo2 k))))))) := by rw [wl_at (la_Past).1, (la_Past).2]; rfl
theorem c_Odds {cy : Nat → ClassId} {B : Nat} {σ : Mem} {Y : va_W} : (wl cy B σ Y)[oOdds]? = some (B + oOdds, .inl (cy 4, 193, .inr (.inr (.inr (.inl (fun k => rD σ 0 0 k)))))) := by rw [wl_at (la_Odds).1, (la_Odds).2]; rfl
theorem c_Signs {cy : Nat → ClassId} {B : Nat} {σ : Mem} {Y : va_W} : (wl cy B σ Y)[oSigns]? = some (B + oSigns, .inl (cy 3, 160, .inl (fun k => rI σ 5 0 k))) := by rw [wl_at (la_Signs).1, (la_Signs).2]; rfl
theorem s_HB_wrongAt {cy : Nat → ClassId} {B : Nat} {σ : Mem} {Y : va_W} {v : Int32} : (wl cy B σ Y).set (oHB) (B + oHB, .inr (7, [.ref (B + oIn), .int v, .ref (B + oHo (rP σ 0)), .ref (B + oHo (rP σ 1)), .ref (B + oPl 0), .ref (B + oPl 1), .ref (B + oPast), .int (rI σ 2 0 0), .int (rI σ 3 0 0), .ref (B + oOdds), .ref (B + oSigns), .int (rI σ 4 0 0)])) = wl cy B (wI σ 1 0 0 v) Y := by
  refine wl_set (la_HB).1 (by rw [(la_HB).2]; simp [cellK, rI_wI, rI_wJ, rJ_wI, rP_wI, rD_wI]) ?_
  rw [(la_HB).2]
  intro q hv hq
  unfold cellK
  split <;> simp [rI_wI, rI_wJ, rJ_wI, rP_wI, rD_wI]
  all_goals first | done | (simp [okq] at hv; simp at hq; simp_all; done) | (simp [okq] at hv; simp_all; done) | skip
theorem s_HB_now {cy : Nat → ClassId} {B : Nat} {σ : Mem} {Y : va_W} {v : Nat} : (wl cy B σ Y).set (oHB) (B + oHB, .inr (7, [.ref (B + oIn), .int (rI σ 1 0 0), .ref (B + oHo v), .ref (B + oHo (rP σ 1)), .ref (B + oPl 0), .ref (B + oPl 1), .ref (B + oPast), .int (rI σ 2 0 0), .int (rI σ 3 0 0), .ref (B + oOdds), .ref (B + oSigns), .int (rI σ 4 0 0)])) = wl cy B (wP σ 0 v) Y := by
  refine wl_set (la_HB).1 (by rw [(la_HB).2]; simp [cellK, rI_wP, rJ_wP, rP_wP, rD_wP]) ?_
  rw [(la_HB).2]
  intro q hv hq
  unfold cellK
  split <;> simp [rI_wP, rJ_wP, rP_wP, rD_wP]
  all_goals first | done | (simp [okq] at hv; simp at hq; simp_all; done) | (simp [okq] at hv; simp_all; done) | skip
theorem s_HB_spare {cy : Nat → ClassId} {B : Nat} {σ : Mem} {Y : va_W} {v : Nat} : (wl cy B σ Y).set (oHB) (B + oHB, .inr (7, [.ref (B + oIn), .int (rI σ 1 0 0), .ref (B + oHo (rP σ 0)), .ref (B + oHo v), .ref (B + oPl 0), .ref (B + oPl 1), .ref (B + oPast), .int (rI σ 2 0 0), .int (rI σ 3 0 0), .ref (B + oOdds), .ref (B + oSigns), .int (rI σ 4 0 0)])) = wl cy B (wP σ 1 v) Y := by
  refine wl_set (la_HB).1 (by rw [(la_HB).2]; simp [cellK, rI_wP, rJ_wP, rP_wP, rD_wP]) ?_
  rw [(la_HB).2]
  intro q hv hq
  unfold cellK
  split <;> simp [rI_wP, rJ_wP, rP_wP, rD_wP]
  all_goals first | done | (simp [okq] at hv; simp at hq; simp_all; done) | (simp [okq] at hv; simp_all; done) | skip
theorem s_HB_pastNext {cy : Nat → ClassId} {B : Nat} {σ : Mem} {Y : va_W} {v : Int32} : (wl cy B σ Y).set (oHB) (B + oHB, .inr (7, [.ref (B + oIn), .int (rI σ 1 0 0), .ref (B + oHo (rP σ 0)), .ref (B + oHo (rP σ 1)), .ref (B + oPl 0), .ref (B + oPl 1), .ref (B + oPast), .int v, .int (rI σ 3 0 0), .ref (B + oOdds), .ref (B + oSigns), .int (rI σ 4 0 0)])) = wl cy B (wI σ 2 0 0 v) Y := by
  refine wl_set (la_HB).1 (by rw [(la_HB).2]; simp [cellK, rI_wI, rI_wJ, rJ_wI, rP_wI, rD_wI]) ?_
  rw [(la_HB).2]
  intro q hv hq
  unfold cellK
  split <;> simp [rI_wI, rI_wJ, rJ_wI, rP_wI, rD_wI]
  all_goals first | done | (simp [okq] at hv; simp at hq; simp_all; done) | (simp [okq] at hv; simp_all; done) | skip
theorem s_HB_pastCount {cy : Nat → ClassId} {B : Nat} {σ : Mem} {Y : va_W} {v : Int32} : (wl cy B σ Y).set (oHB) (B + oHB, .inr (7, [.ref (B + oIn), .int (rI σ 1 0 0), .ref (B + oHo (rP σ 0)), .ref (B + oHo (rP σ 1)), .ref (B + oPl 0), .ref (B + oPl 1), .ref (B + oPast), .int (rI σ 2 0 0), .int v, .ref (B + oOdds), .ref (B + oSigns), .int (rI σ 4 0 0)])) = wl cy B (wI σ 3 0 0 v) Y := by
  refine wl_set (la_HB).1 (by rw [(la_HB).2]; simp [cellK, rI_wI, rI_wJ, rJ_wI, rP_wI, rD_wI]) ?_
  rw [(la_HB).2]
  intro q hv hq
  unfold cellK
  split <;> simp [rI_wI, rI_wJ, rJ_wI, rP_wI, rD_wI]
  all_goals first | done | (simp [okq] at hv; simp at hq; simp_all; done) | (simp [okq] at hv; simp_all; done) | skip
theorem s_HB_signCount {cy : Nat → ClassId} {B : Nat} {σ : Mem} {Y : va_W} {v : Int32} : (wl cy B σ Y).set (oHB) (B + oHB, .inr (7, [.ref (B + oIn), .int (rI σ 1 0 0), .ref (B + oHo (rP σ 0)), .ref (B + oHo (rP σ 1)), .ref (B + oPl 0), .ref (B + oPl 1), .ref (B + oPast), .int (rI σ 2 0 0), .int (rI σ 3 0 0), .ref (B + oOdds), .ref (B + oSigns), .int v])) = wl cy B (wI σ 4 0 0 v) Y := by
  refine wl_set (la_HB).1 (by rw [(la_HB).2]; simp [cellK, rI_wI, rI_wJ, rJ_wI, rP_wI, rD_wI]) ?_
  rw [(la_HB).2]
  intro q hv hq
  unfold cellK
  split <;> simp [rI_wI, rI_wJ, rJ_wI, rP_wI, rD_wI]
  all_goals first | done | (simp [okq] at hv; simp at hq; simp_all; done) | (simp [okq] at hv; simp_all; done) | skip
theorem s_In_length {cy : Nat → ClassId} {B : Nat} {σ : Mem} {Y : va_W} {v : Int32} : (wl cy B σ Y).set (oIn) (B + oIn, .inr (4, [.ref (B + oText), .int v, .int (rI σ 8 0 0), .int (rI σ 9 0 0), .int (rI σ 10 0 0), .long (rJ σ 0 0 0), .int (rI σ 11 0 0)])) = wl cy B (wI σ 7 0 0 v) Y := by
  refine wl_set (la_In).1 (by rw [(la_In).2]; simp [cellK, rI_wI, rI_wJ, rJ_wI, rP_wI, rD_wI]) ?_
  rw [(la_In).2]
  intro q hv hq
  unfold cellK
  split <;> simp [rI_wI, rI_wJ, rJ_wI, rP_wI, rD_wI]
  all_goals first | done | (simp [okq] at hv; simp at hq; simp_all; done) | (simp [okq] at hv; simp_all; done) | skip
theorem s_In_at {cy : Nat → ClassId} {B : Nat} {σ : Mem} {Y : va_W} {v : Int32} : (wl cy B σ Y).set (oIn) (B + oIn, .inr (4, [.ref (B + oText), .int (rI σ 7 0 0), .int v, .int (rI σ 9 0 0), .int (rI σ 10 0 0), .long (rJ σ 0 0 0), .int (rI σ 11 0 0)])) = wl cy B (wI σ 8 0 0 v) Y := by
  refine wl_set (la_In).1 (by rw [(la_In).2]; simp [cellK, rI_wI, rI_wJ, rJ_wI, rP_wI, rD_wI]) ?_
  rw [(la_In).2]
  intro q hv hq
  unfold cellK
  split <;> simp [rI_wI, rI_wJ, rJ_wI, rP_wI, rD_wI]
  all_goals first | done | (simp [okq] at hv; simp at hq; simp_all; done) | (simp [okq] at hv; simp_all; done) | skip
theorem s_In_start {cy : Nat → ClassId} {B : Nat} {σ : Mem} {Y : va_W} {v : Int32} : (wl cy B σ Y).set (oIn) (B + oIn, .inr (4, [.ref (B + oText), .int (rI σ 7 0 0), .int (rI σ 8 0 0), .int v, .int (rI σ 10 0 0), .long (rJ σ 0 0 0), .int (rI σ 11 0 0)])) = wl cy B (wI σ 9 0 0 v) Y := by
  refine wl_set (la_In).1 (by rw [(la_In).2]; simp [cellK, rI_wI, rI_wJ, rJ_wI, rP_wI, rD_wI]) ?_
  rw [(la_In).2]
  intro q hv hq
  unfold cellK
  split <;> simp [rI_wI, rI_wJ, rJ_wI, rP_wI, rD_wI]
  all_goals first | done | (simp [okq] at hv; simp at hq; simp_all; done) | (simp [okq] at hv; simp_all; done) | skip
theorem s_In_token {cy : Nat → ClassId} {B : Nat} {σ : Mem} {Y : va_W} {v : Int32} : (wl cy B σ Y).set (oIn) (B + oIn, .inr (4, [.ref (B + oText), .int (rI σ 7 0 0), .int (rI σ 8 0 0), .int (rI σ 9 0 0), .int v, .long (rJ σ 0 0 0), .int (rI σ 11 0 0)])) = wl cy B (wI σ 10 0 0 v) Y := by
  refine wl_set (la_In).1 (by rw [(la_In).2]; simp [cellK, rI_wI, rI_wJ, rJ_wI, rP_wI, rD_wI]) ?_
  rw [(la_In).2]
  intro q hv hq
  unfold cellK
  split <;> simp [rI_wI, rI_wJ, rJ_wI, rP_wI, rD_wI]
  all_goals first | done | (simp [okq] at hv; simp at hq; simp_all; done) | (simp [okq] at hv; simp_all; done) | skip
theorem s_In_word {cy : Nat → ClassId} {B : Nat} {σ : Mem} {Y : va_W} {v : Int64} : (wl cy B σ Y).set (oIn) (B + oIn, .inr (4, [.ref (B + oText), .int (rI σ 7 0 0), .int (rI σ 8 0 0), .int (rI σ 9 0 0), .int (rI σ 10 0 0), .long v, .int (rI σ 11 0 0)])) = wl cy B (wJ σ 0 0 0 v) Y := by
  refine wl_set (la_In).1 (by rw [(la_In).2]; simp [cellK, rI_wJ, rJ_wJ, rP_wJ, rD_wJ]) ?_
  rw [(la_In).2]
  intro q hv hq
  unfold cellK
  split <;> simp [rI_wJ, rJ_wJ, rP_wJ, rD_wJ]
  all_goals first | done | (simp [okq] at hv; simp at hq; simp_all; done) | (simp [okq] at hv; simp_all; done) | skip
theorem s_In_number {cy : Nat → ClassId} {B : Nat} {σ : Mem} {Y : va_W} {v : Int32} : (wl cy B σ Y).set (oIn) (B + oIn, .inr (4, [.ref (B + oText), .int (rI σ 7 0 0), .int (rI σ 8 0 0), .int (rI σ 9 0 0), .int (rI σ 10 0 0), .long (rJ σ 0 0 0), .int v])) = wl cy B (wI σ 11 0 0 v) Y := by
  refine wl_set (la_In).1 (by rw [(la_In).2]; simp [cellK, rI_wI, rI_wJ, rJ_wI, rP_wI, rD_wI]) ?_
  rw [(la_In).2]
  intro q hv hq
  unfold cellK
  split <;> simp [rI_wI, rI_wJ, rJ_wI, rP_wI, rD_wI]
  all_goals first | done | (simp [okq] at hv; simp at hq; simp_all; done) | (simp [okq] at hv; simp_all; done) | skip
theorem s_Text {cy : Nat → ClassId} {B : Nat} {σ : Mem} {Y : va_W} {i : Nat} {v : Int32} : (wl cy B σ Y).set (oText) (B + oText, .inl (cy 2, 700, .inl (upd (fun k => rI σ 6 0 k) i v))) = wl cy B (wI σ 6 0 i v) Y := by
  refine wl_set (la_Text).1 (by rw [(la_Text).2]; simp [cellK, upd, rI_wI, rJ_wI, rP_wI, rD_wI]; try rfl) ?_
  rw [(la_Text).2]
  intro q hv hq
  unfold cellK
  split <;> simp [rI_wI, rJ_wI, rP_wI, rD_wI]
  all_goals first | done | (simp [okq] at hv; simp at hq; simp_all; done) | (simp [okq] at hv; simp_all; done) | skip
theorem s_Ho_roomCount {cy : Nat → ClassId} {B : Nat} {σ : Mem} {Y : va_W} {j : Nat} (hj : j < 12) {v : Int32} : (wl cy B σ Y).set (oHo j) (B + oHo j, .inr (3, [.ref (B + oRms j), .int v, .int (rI σ 21 j 0), .ref (B + oBks j), .int (rI σ 22 j 0), .ref (B + oQue j), .int (rI σ 23 j 0), .ref (B + oCrd j), .int (rI σ 24 j 0), .int (rI σ 25 j 0), .int (rI σ 26 j 0), .int (rI σ 27 j 0)])) = wl cy B (wI σ 20 j 0 v) Y := by
  refine wl_set (la_Ho j hj).1 (by rw [(la_Ho j hj).2]; simp [cellK, rI_wI, rI_wJ, rJ_wI, rP_wI, rD_wI]) ?_
  rw [(la_Ho j hj).2]
  intro q hv hq
  unfold cellK
  split <;> simp [rI_wI, rI_wJ, rJ_wI, rP_wI, rD_wI]
  all_goals first | done | (simp [okq] at hv; simp at hq; simp_all; done) | (simp [okq] at hv; simp_all; done) | skip
theorem s_Ho_bedCount {cy : Nat → ClassId} {B : Nat} {σ : Mem} {Y : va_W} {j : Nat} (hj : j < 12) {v : Int32} : (wl cy B σ Y).set (oHo j) (B + oHo j, .inr (3, [.ref (B + oRms j), .int (rI σ 20 j 0), .int v, .ref (B + oBks j), .int (rI σ 22 j 0), .ref (B + oQue j), .int (rI σ 23 j 0), .ref (B + oCrd j), .int (rI σ 24 j 0), .int (rI σ 25 j 0), .int (rI σ 26 j 0), .int (rI σ 27 j 0)])) = wl cy B (wI σ 21 j 0 v) Y := by
  refine wl_set (la_Ho j hj).1 (by rw [(la_Ho j hj).2]; simp [cellK, rI_wI, rI_wJ, rJ_wI, rP_wI, rD_wI]) ?_
  rw [(la_Ho j hj).2]
  intro q hv hq
  unfold cellK
  split <;> simp [rI_wI, rI_wJ, rJ_wI, rP_wI, rD_wI]
  all_goals first | done | (simp [okq] at hv; simp at hq; simp_all; done) | (simp [okq] at hv; simp_all; done) | skip
theorem s_Ho_bookingCount {cy : Nat → ClassId} {B : Nat} {σ : Mem} {Y : va_W} {j : Nat} (hj : j < 12) {v : Int32} : (wl cy B σ Y).set (oHo j) (B + oHo j, .inr (3, [.ref (B + oRms j), .int (rI σ 20 j 0), .int (rI σ 21 j 0), .ref (B + oBks j), .int v, .ref (B + oQue j), .int (rI σ 23 j 0), .ref (B + oCrd j), .int (rI σ 24 j 0), .int (rI σ 25 j 0), .int (rI σ 26 j 0), .int (rI σ 27 j 0)])) = wl cy B (wI σ 22 j 0 v) Y := by
  refine wl_set (la_Ho j hj).1 (by rw [(la_Ho j hj).2]; simp [cellK, rI_wI, rI_wJ, rJ_wI, rP_wI, rD_wI]) ?_
  rw [(la_Ho j hj).2]
  intro q hv hq
  unfold cellK
  split <;> simp [rI_wI, rI_wJ, rJ_wI, rP_wI, rD_wI]
  all_goals first | done | (simp [okq] at hv; simp at hq; simp_all; done) | (simp [okq] at hv; simp_all; done) | skip
theorem s_Ho_queued {cy : Nat → ClassId} {B : Nat} {σ : Mem} {Y : va_W} {j : Nat} (hj : j < 12) {v : Int32} : (wl cy B σ Y).set (oHo j) (B + oHo j, .inr (3, [.ref (B + oRms j), .int (rI σ 20 j 0), .int (rI σ 21 j 0), .ref (B + oBks j), .int (rI σ 22 j 0), .ref (B + oQue j), .int v, .ref (B + oCrd j), .int (rI σ 24 j 0), .int (rI σ 25 j 0), .int (rI σ 26 j 0), .int (rI σ 27 j 0)])) = wl cy B (wI σ 23 j 0 v) Y := by
  refine wl_set (la_Ho j hj).1 (by rw [(la_Ho j hj).2]; simp [cellK, rI_wI, rI_wJ, rJ_wI, rP_wI, rD_wI]) ?_
  rw [(la_Ho j hj).2]
  intro q hv hq
  unfold cellK
  split <;> simp [rI_wI, rI_wJ, rJ_wI, rP_wI, rD_wI]
  all_goals first | done | (simp [okq] at hv; simp at hq; simp_all; done) | (simp [okq] at hv; simp_all; done) | skip
theorem s_Ho_over {cy : Nat → ClassId} {B : Nat} {σ : Mem} {Y : va_W} {j : Nat} (hj : j < 12) {v : Int32} : (wl cy B σ Y).set (oHo j) (B + oHo j, .inr (3, [.ref (B + oRms j), .int (rI σ 20 j 0), .int (rI σ 21 j 0), .ref (B + oBks j), .int (rI σ 22 j 0), .ref (B + oQue j), .int (rI σ 23 j 0), .ref (B + oCrd j), .int v, .int (rI σ 25 j 0), .int (rI σ 26 j 0), .int (rI σ 27 j 0)])) = wl cy B (wI σ 24 j 0 v) Y := by
  refine wl_set (la_Ho j hj).1 (by rw [(la_Ho j hj).2]; simp [cellK, rI_wI, rI_wJ, rJ_wI, rP_wI, rD_wI]) ?_
  rw [(la_Ho j hj).2]
  intro q hv hq
  unfold cellK
  split <;> simp [rI_wI, rI_wJ, rJ_wI, rP_wI, rD_wI]
  all_goals first | done | (simp [okq] at hv; simp at hq; simp_all; done) | (simp [okq] at hv; simp_all; done) | skip
theorem s_Ho_walk {cy : Nat → ClassId} {B : Nat} {σ : Mem} {Y : va_W} {j : Nat} (hj : j < 12) {v : Int32} : (wl cy B σ Y).set (oHo j) (B + oHo j, .inr (3, [.ref (B + oRms j), .int (rI σ 20 j 0), .int (rI σ 21 j 0), .ref (B + oBks j), .int (rI σ 22 j 0), .ref (B + oQue j), .int (rI σ 23 j 0), .ref (B + oCrd j), .int (rI σ 24 j 0), .int v, .int (rI σ 26 j 0), .int (rI σ 27 j 0)])) = wl cy B (wI σ 25 j 0 v) Y := by
  refine wl_set (la_Ho j hj).1 (by rw [(la_Ho j hj).2]; simp [cellK, rI_wI, rI_wJ, rJ_wI, rP_wI, rD_wI]) ?_
  rw [(la_Ho j hj).2]
  intro q hv hq
  unfold cellK
  split <;> simp [rI_wI, rI_wJ, rJ_wI, rP_wI, rD_wI]
  all_goals first | done | (simp [okq] at hv; simp at hq; simp_all; done) | (simp [okq] at hv; simp_all; done) | skip
theorem s_Ho_offerNights {cy : Nat → ClassId} {B : Nat} {σ : Mem} {Y : va_W} {j : Nat} (hj : j < 12) {v : Int32} : (wl cy B σ Y).set (oHo j) (B + oHo j, .inr (3, [.ref (B + oRms j), .int (rI σ 20 j 0), .int (rI σ 21 j 0), .ref (B + oBks j), .int (rI σ 22 j 0), .ref (B + oQue j), .int (rI σ 23 j 0), .ref (B + oCrd j), .int (rI σ 24 j 0), .int (rI σ 25 j 0), .int v, .int (rI σ 27 j 0)])) = wl cy B (wI σ 26 j 0 v) Y := by
  refine wl_set (la_Ho j hj).1 (by rw [(la_Ho j hj).2]; simp [cellK, rI_wI, rI_wJ, rJ_wI, rP_wI, rD_wI]) ?_
  rw [(la_Ho j hj).2]
  intro q hv hq
  unfold cellK
  split <;> simp [rI_wI, rI_wJ, rJ_wI, rP_wI, rD_wI]
  all_goals first | done | (simp [okq] at hv; simp at hq; simp_all; done) | (simp [okq] at hv; simp_all; done) | skip
theorem s_Ho_offerPercent {cy : Nat → ClassId} {B : Nat} {σ : Mem} {Y : va_W} {j : Nat} (hj : j < 12) {v : Int32} : (wl cy B σ Y).set (oHo j) (B + oHo j, .inr (3, [.ref (B + oRms j), .int (rI σ 20 j 0), .int (rI σ 21 j 0), .ref (B + oBks j), .int (rI σ 22 j 0), .ref (B + oQue j), .int (rI σ 23 j 0), .ref (B + oCrd j), .int (rI σ 24 j 0), .int (rI σ 25 j 0), .int (rI σ 26 j 0), .int v])) = wl cy B (wI σ 27 j 0 v) Y := by
  refine wl_set (la_Ho j hj).1 (by rw [(la_Ho j hj).2]; simp [cellK, rI_wI, rI_wJ, rJ_wI, rP_wI, rD_wI]) ?_
  rw [(la_Ho j hj).2]
  intro q hv hq
  unfold cellK
  split <;> simp [rI_wI, rI_wJ, rJ_wI, rP_wI, rD_wI]
  all_goals first | done | (simp [okq] at hv; simp at hq; simp_all; done) | (simp [okq] at hv; simp_all; done) | skip
theorem s_Que {cy : Nat → ClassId} {B : Nat} {σ : Mem} {Y : va_W} {j : Nat} (hj : j < 12) {i : Nat} {v : Int32} : (wl cy B σ Y).set (oQue j) (B + oQue j, .inl (cy 0, 17, .inl (upd (fun k => rI σ 28 j k) i v))) = wl cy B (wI σ 28 j i v) Y := by
  refine wl_set (la_Que j hj).1 (by rw [(la_Que j hj).2]; simp [cellK, upd, rI_wI, rJ_wI, rP_wI, rD_wI]; try rfl) ?_
  rw [(la_Que j hj).2]
  intro q hv hq
  unfold cellK
  split <;> simp [rI_wI, rJ_wI, rP_wI, rD_wI]
  all_goals first | done | (simp [okq] at hv; simp at hq; simp_all; done) | (simp [okq] at hv; simp_all; done) | skip
theorem s_Crd {cy : Nat → ClassId} {B : Nat} {σ : Mem} {Y : va_W} {j : Nat} (hj : j < 12) {i : Nat} {v : Int32} : (wl cy B σ Y).set (oCrd j) (B + oCrd j, .inl (cy 0, 30, .inl (upd (fun k => rI σ 29 j k) i v))) = wl cy B (wI σ 29 j i v) Y := by
  refine wl_set (la_Crd j hj).1 (by rw [(la_Crd j hj).2]; simp [cellK, upd, rI_wI, rJ_wI, rP_wI, rD_wI]; try rfl) ?_
  rw [(la_Crd j hj).2]
  intro q hv hq
  unfold cellK
  split <;> simp [rI_wI, rJ_wI, rP_wI, rD_wI]
  all_goals first | done | (simp [okq] at hv; simp at hq; simp_all; done) | (simp [okq] at hv; simp_all; done) | skip
theorem s_Rm_name {cy : Nat → ClassId} {B : Nat} {σ : Mem} {Y : va_W} {j : Nat} (hj : j < 12) {r : Nat} (hr : r < 8) {v : Int64} : (wl cy B σ Y).set (oRm j r) (B + oRm j r, .inr (6, [.long v, .int (rI σ 30 j r), .int (rI σ 31 j r), .int (rI σ 32 j r), .int (rI σ 33 j r)])) = wl cy B (wJ σ 1 j r v) Y := by
  refine wl_set (la_Rm j hj r hr).1 (by rw [(la_Rm j hj r hr).2]; simp [cellK, rI_wJ, rJ_wJ, rP_wJ, rD_wJ]) ?_
  rw [(la_Rm j hj r hr).2]
  intro q hv hq
  unfold cellK
  split <;> simp [rI_wJ, rJ_wJ, rP_wJ, rD_wJ]
  all_goals first | done | (simp [okq] at hv; simp at hq; simp_all; done) | (simp [okq] at hv; simp_all; done) | skip
theorem s_Rm_kind {cy : Nat → ClassId} {B : Nat} {σ : Mem} {Y : va_W} {j : Nat} (hj : j < 12) {r : Nat} (hr : r < 8) {v : Int32} : (wl cy B σ Y).set (oRm j r) (B + oRm j r, .inr (6, [.long (rJ σ 1 j r), .int v, .int (rI σ 31 j r), .int (rI σ 32 j r), .int (rI σ 33 j r)])) = wl cy B (wI σ 30 j r v) Y := by
  refine wl_set (la_Rm j hj r hr).1 (by rw [(la_Rm j hj r hr).2]; simp [cellK, rI_wI, rI_wJ, rJ_wI, rP_wI, rD_wI]) ?_
  rw [(la_Rm j hj r hr).2]
  intro q hv hq
  unfold cellK
  split <;> simp [rI_wI, rI_wJ, rJ_wI, rP_wI, rD_wI]
  all_goals first | done | (simp [okq] at hv; simp at hq; simp_all; done) | (simp [okq] at hv; simp_all; done) | skip
theorem s_Rm_beds {cy : Nat → ClassId} {B : Nat} {σ : Mem} {Y : va_W} {j : Nat} (hj : j < 12) {r : Nat} (hr : r < 8) {v : Int32} : (wl cy B σ Y).set (oRm j r) (B + oRm j r, .inr (6, [.long (rJ σ 1 j r), .int (rI σ 30 j r), .int v, .int (rI σ 32 j r), .int (rI σ 33 j r)])) = wl cy B (wI σ 31 j r v) Y := by
  refine wl_set (la_Rm j hj r hr).1 (by rw [(la_Rm j hj r hr).2]; simp [cellK, rI_wI, rI_wJ, rJ_wI, rP_wI, rD_wI]) ?_
  rw [(la_Rm j hj r hr).2]
  intro q hv hq
  unfold cellK
  split <;> simp [rI_wI, rI_wJ, rJ_wI, rP_wI, rD_wI]
  all_goals first | done | (simp [okq] at hv; simp at hq; simp_all; done) | (simp [okq] at hv; simp_all; done) | skip
theorem s_Rm_age {cy : Nat → ClassId} {B : Nat} {σ : Mem} {Y : va_W} {j : Nat} (hj : j < 12) {r : Nat} (hr : r < 8) {v : Int32} : (wl cy B σ Y).set (oRm j r) (B + oRm j r, .inr (6, [.long (rJ σ 1 j r), .int (rI σ 30 j r), .int (rI σ 31 j r), .int v, .int (rI σ 33 j r)])) = wl cy B (wI σ 32 j r v) Y := by
  refine wl_set (la_Rm j hj r hr).1 (by rw [(la_Rm j hj r hr).2]; simp [cellK, rI_wI, rI_wJ, rJ_wI, rP_wI, rD_wI]) ?_
  rw [(la_Rm j hj r hr).2]
  intro q hv hq
  unfold cellK
  split <;> simp [rI_wI, rI_wJ, rJ_wI, rP_wI, rD_wI]
  all_goals first | done | (simp [okq] at hv; simp at hq; simp_all; done) | (simp [okq] at hv; simp_all; done) | skip
theorem s_Rm_price {cy : Nat → ClassId} {B : Nat} {σ : Mem} {Y : va_W} {j : Nat} (hj : j < 12) {r : Nat} (hr : r < 8) {v : Int32} : (wl cy B σ Y).set (oRm j r) (B + oRm j r, .inr (6, [.long (rJ σ 1 j r), .int (rI σ 30 j r), .int (rI σ 31 j r), .int (rI σ 32 j r), .int v])) = wl cy B (wI σ 33 j r v) Y := by
  refine wl_set (la_Rm j hj r hr).1 (by rw [(la_Rm j hj r hr).2]; simp [cellK, rI_wI, rI_wJ, rJ_wI, rP_wI, rD_wI]) ?_
  rw [(la_Rm j hj r hr).2]
  intro q hv hq
  unfold cellK
  split <;> simp [rI_wI, rI_wJ, rJ_wI, rP_wI, rD_wI]
  all_goals first | done | (simp [okq] at hv; simp at hq; simp_all; done) | (simp [okq] at hv; simp_all; done) | skip
theorem s_Bk_name {cy : Nat → ClassId} {B : Nat} {σ : Mem} {Y : va_W} {j : Nat} (hj : j < 12) {r : Nat} (hr : r < 17) {v : Int64} : (wl cy B σ Y).set (oBk j r) (B + oBk j r, .inr (2, [.long v, .int (rI σ 40 j r), .int (rI σ 41 j r), .int (rI σ 42 j r), .int (rI σ 43 j r), .int (rI σ 44 j r), .int (rI σ 45 j r), .int (rI σ 46 j r), .int (rI σ 47 j r), .int (rI σ 48 j r), .int (rI σ 49 j r)])) = wl cy B (wJ σ 2 j r v) Y := by
  refine wl_set (la_Bk j hj r hr).1 (by rw [(la_Bk j hj r hr).2]; simp [cellK, rI_wJ, rJ_wJ, rP_wJ, rD_wJ]) ?_
  rw [(la_Bk j hj r hr).2]
  intro q hv hq
  unfold cellK
  split <;> simp [rI_wJ, rJ_wJ, rP_wJ, rD_wJ]
  all_goals first | done | (simp [okq] at hv; simp at hq; simp_all; done) | (simp [okq] at hv; simp_all; done) | skip
theorem s_Bk_from {cy : Nat → ClassId} {B : Nat} {σ : Mem} {Y : va_W} {j : Nat} (hj : j < 12) {r : Nat} (hr : r < 17) {v : Int32} : (wl cy B σ Y).set (oBk j r) (B + oBk j r, .inr (2, [.long (rJ σ 2 j r), .int v, .int (rI σ 41 j r), .int (rI σ 42 j r), .int (rI σ 43 j r), .int (rI σ 44 j r), .int (rI σ 45 j r), .int (rI σ 46 j r), .int (rI σ 47 j r), .int (rI σ 48 j r), .int (rI σ 49 j r)])) = wl cy B (wI σ 40 j r v) Y := by
  refine wl_set (la_Bk j hj r hr).1 (by rw [(la_Bk j hj r hr).2]; simp [cellK, rI_wI, rI_wJ, rJ_wI, rP_wI, rD_wI]) ?_
  rw [(la_Bk j hj r hr).2]
  intro q hv hq
  unfold cellK
  split <;> simp [rI_wI, rI_wJ, rJ_wI, rP_wI, rD_wI]
  all_goals first | done | (simp [okq] at hv; simp at hq; simp_all; done) | (simp [okq] at hv; simp_all; done) | skip
theorem s_Bk_nights {cy : Nat → ClassId} {B : Nat} {σ : Mem} {Y : va_W} {j : Nat} (hj : j < 12) {r : Nat} (hr : r < 17) {v : Int32} : (wl cy B σ Y).set (oBk j r) (B + oBk j r, .inr (2, [.long (rJ σ 2 j r), .int (rI σ 40 j r), .int v, .int (rI σ 42 j r), .int (rI σ 43 j r), .int (rI σ 44 j r), .int (rI σ 45 j r), .int (rI σ 46 j r), .int (rI σ 47 j r), .int (rI σ 48 j r), .int (rI σ 49 j r)])) = wl cy B (wI σ 41 j r v) Y := by
  refine wl_set (la_Bk j hj r hr).1 (by rw [(la_Bk j hj r hr).2]; simp [cellK, rI_wI, rI_wJ, rJ_wI, rP_wI, rD_wI]) ?_
  rw [(la_Bk j hj r hr).2]
  intro q hv hq
  unfold cellK
  split <;> simp [rI_wI, rI_wJ, rJ_wI, rP_wI, rD_wI]
  all_goals first | done | (simp [okq] at hv; simp at hq; simp_all; done) | (simp [okq] at hv; simp_all; done) | skip
theorem s_Bk_women {cy : Nat → ClassId} {B : Nat} {σ : Mem} {Y : va_W} {j : Nat} (hj : j < 12) {r : Nat} (hr : r < 17) {v : Int32} : (wl cy B σ Y).set (oBk j r) (B + oBk j r, .inr (2, [.long (rJ σ 2 j r), .int (rI σ 40 j r), .int (rI σ 41 j r), .int v, .int (rI σ 43 j r), .int (rI σ 44 j r), .int (rI σ 45 j r), .int (rI σ 46 j r), .int (rI σ 47 j r), .int (rI σ 48 j r), .int (rI σ 49 j r)])) = wl cy B (wI σ 42 j r v) Y := by
  refine wl_set (la_Bk j hj r hr).1 (by rw [(la_Bk j hj r hr).2]; simp [cellK, rI_wI, rI_wJ, rJ_wI, rP_wI, rD_wI]) ?_
  rw [(la_Bk j hj r hr).2]
  intro q hv hq
  unfold cellK
  split <;> simp [rI_wI, rI_wJ, rJ_wI, rP_wI, rD_wI]
  all_goals first | done | (simp [okq] at hv; simp at hq; simp_all; done) | (simp [okq] at hv; simp_all; done) | skip
theorem s_Bk_men {cy : Nat → ClassId} {B : Nat} {σ : Mem} {Y : va_W} {j : Nat} (hj : j < 12) {r : Nat} (hr : r < 17) {v : Int32} : (wl cy B σ Y).set (oBk j r) (B + oBk j r, .inr (2, [.long (rJ σ 2 j r), .int (rI σ 40 j r), .int (rI σ 41 j r), .int (rI σ 42 j r), .int v, .int (rI σ 44 j r), .int (rI σ 45 j r), .int (rI σ 46 j r), .int (rI σ 47 j r), .int (rI σ 48 j r), .int (rI σ 49 j r)])) = wl cy B (wI σ 43 j r v) Y := by
  refine wl_set (la_Bk j hj r hr).1 (by rw [(la_Bk j hj r hr).2]; simp [cellK, rI_wI, rI_wJ, rJ_wI, rP_wI, rD_wI]) ?_
  rw [(la_Bk j hj r hr).2]
  intro q hv hq
  unfold cellK
  split <;> simp [rI_wI, rI_wJ, rJ_wI, rP_wI, rD_wI]
  all_goals first | done | (simp [okq] at hv; simp at hq; simp_all; done) | (simp [okq] at hv; simp_all; done) | skip
theorem s_Bk_persons {cy : Nat → ClassId} {B : Nat} {σ : Mem} {Y : va_W} {j : Nat} (hj : j < 12) {r : Nat} (hr : r < 17) {v : Int32} : (wl cy B σ Y).set (oBk j r) (B + oBk j r, .inr (2, [.long (rJ σ 2 j r), .int (rI σ 40 j r), .int (rI σ 41 j r), .int (rI σ 42 j r), .int (rI σ 43 j r), .int v, .int (rI σ 45 j r), .int (rI σ 46 j r), .int (rI σ 47 j r), .int (rI σ 48 j r), .int (rI σ 49 j r)])) = wl cy B (wI σ 44 j r v) Y := by
  refine wl_set (la_Bk j hj r hr).1 (by rw [(la_Bk j hj r hr).2]; simp [cellK, rI_wI, rI_wJ, rJ_wI, rP_wI, rD_wI]) ?_
  rw [(la_Bk j hj r hr).2]
  intro q hv hq
  unfold cellK
  split <;> simp [rI_wI, rI_wJ, rJ_wI, rP_wI, rD_wI]
  all_goals first | done | (simp [okq] at hv; simp at hq; simp_all; done) | (simp [okq] at hv; simp_all; done) | skip
theorem s_Bk_age {cy : Nat → ClassId} {B : Nat} {σ : Mem} {Y : va_W} {j : Nat} (hj : j < 12) {r : Nat} (hr : r < 17) {v : Int32} : (wl cy B σ Y).set (oBk j r) (B + oBk j r, .inr (2, [.long (rJ σ 2 j r), .int (rI σ 40 j r), .int (rI σ 41 j r), .int (rI σ 42 j r), .int (rI σ 43 j r), .int (rI σ 44 j r), .int v, .int (rI σ 46 j r), .int (rI σ 47 j r), .int (rI σ 48 j r), .int (rI σ 49 j r)])) = wl cy B (wI σ 45 j r v) Y := by
  refine wl_set (la_Bk j hj r hr).1 (by rw [(la_Bk j hj r hr).2]; simp [cellK, rI_wI, rI_wJ, rJ_wI, rP_wI, rD_wI]) ?_
  rw [(la_Bk j hj r hr).2]
  intro q hv hq
  unfold cellK
  split <;> simp [rI_wI, rI_wJ, rJ_wI, rP_wI, rD_wI]
  all_goals first | done | (simp [okq] at hv; simp at hq; simp_all; done) | (simp [okq] at hv; simp_all; done) | skip
theorem s_Bk_chance {cy : Nat → ClassId} {B : Nat} {σ : Mem} {Y : va_W} {j : Nat} (hj : j < 12) {r : Nat} (hr : r < 17) {v : Int32} : (wl cy B σ Y).set (oBk j r) (B + oBk j r, .inr (2, [.long (rJ σ 2 j r), .int (rI σ 40 j r), .int (rI σ 41 j r), .int (rI σ 42 j r), .int (rI σ 43 j r), .int (rI σ 44 j r), .int (rI σ 45 j r), .int v, .int (rI σ 47 j r), .int (rI σ 48 j r), .int (rI σ 49 j r)])) = wl cy B (wI σ 46 j r v) Y := by
  refine wl_set (la_Bk j hj r hr).1 (by rw [(la_Bk j hj r hr).2]; simp [cellK, rI_wI, rI_wJ, rJ_wI, rP_wI, rD_wI]) ?_
  rw [(la_Bk j hj r hr).2]
  intro q hv hq
  unfold cellK
  split <;> simp [rI_wI, rI_wJ, rJ_wI, rP_wI, rD_wI]
  all_goals first | done | (simp [okq] at hv; simp at hq; simp_all; done) | (simp [okq] at hv; simp_all; done) | skip
theorem s_Bk_together {cy : Nat → ClassId} {B : Nat} {σ : Mem} {Y : va_W} {j : Nat} (hj : j < 12) {r : Nat} (hr : r < 17) {v : Int32} : (wl cy B σ Y).set (oBk j r) (B + oBk j r, .inr (2, [.long (rJ σ 2 j r), .int (rI σ 40 j r), .int (rI σ 41 j r), .int (rI σ 42 j r), .int (rI σ 43 j r), .int (rI σ 44 j r), .int (rI σ 45 j r), .int (rI σ 46 j r), .int v, .int (rI σ 48 j r), .int (rI σ 49 j r)])) = wl cy B (wI σ 47 j r v) Y := by
  refine wl_set (la_Bk j hj r hr).1 (by rw [(la_Bk j hj r hr).2]; simp [cellK, rI_wI, rJ_wI, rP_wI, rD_wI]) ?_
  rw [(la_Bk j hj r hr).2]
  intro q hv hq
  unfold cellK
  split <;> simp [rI_wI, rJ_wI, rP_wI, rD_wI]
  all_goals first | done | (simp [okq] at hv; simp at hq; simp_all; done) | (simp [okq] at hv; simp_all; done) | skip
theorem s_Bk_absent {cy : Nat → ClassId} {B : Nat} {σ : Mem} {Y : va_W} {j : Nat} (hj : j < 12) {r : Nat} (hr : r < 17) {v : Int32} : (wl cy B σ Y).set (oBk j r) (B + oBk j r, .inr (2, [.long (rJ σ 2 j r), .int (rI σ 40 j r), .int (rI σ 41 j r), .int (rI σ 42 j r), .int (rI σ 43 j r), .int (rI σ 44 j r), .int (rI σ 45 j r), .int (rI σ 46 j r), .int (rI σ 47 j r), .int v, .int (rI σ 49 j r)])) = wl cy B (wI σ 48 j r v) Y := by
  refine wl_set (la_Bk j hj r hr).1 (by rw [(la_Bk j hj r hr).2]; simp [cellK, rI_wI, rJ_wI, rP_wI, rD_wI]) ?_
  rw [(la_Bk j hj r hr).2]
  intro q hv hq
  unfold cellK
  split <;> simp [rI_wI, rJ_wI, rP_wI, rD_wI]
  all_goals first | done | (simp [okq] at hv; simp at hq; simp_all; done) | (simp [okq] at hv; simp_all; done) | skip
theorem s_Bk_state {cy : Nat → ClassId} {B : Nat} {σ : Mem} {Y : va_W} {j : Nat} (hj : j < 12) {r : Nat} (hr : r < 17) {v : Int32} : (wl cy B σ Y).set (oBk j r) (B + oBk j r, .inr (2, [.long (rJ σ 2 j r), .int (rI σ 40 j r), .int (rI σ 41 j r), .int (rI σ 42 j r), .int (rI σ 43 j r), .int (rI σ 44 j r), .int (rI σ 45 j r), .int (rI σ 46 j r), .int (rI σ 47 j r), .int (rI σ 48 j r), .int v])) = wl cy B (wI σ 49 j r v) Y := by
  refine wl_set (la_Bk j hj r hr).1 (by rw [(la_Bk j hj r hr).2]; simp [cellK, rI_wI, rI_wJ, rJ_wI, rP_wI, rD_wI]) ?_
  rw [(la_Bk j hj r hr).2]
  intro q hv hq
  unfold cellK
  split <;> simp [rI_wI, rI_wJ, rJ_wI, rP_wI, rD_wI]
  all_goals first | done | (simp [okq] at hv; simp at hq; simp_all; done) | (simp [okq] at hv; simp_all; done) | skip
theorem s_Pl_earned {cy : Nat → ClassId} {B : Nat} {σ : Mem} {Y : va_W} {j : Nat} (hj : j < 2) {v : Int32} : (wl cy B σ Y).set (oPl j) (B + oPl j, .inr (5, [.ref (B + oBusy j), .ref (B + oBop j), .ref (B + oOut j), .ref (B + oRb j), .ref (B + oPaid j), .int v, .int (rI σ 56 j 0), .ref (B + oFree j)])) = wl cy B (wI σ 55 j 0 v) Y := by
  refine wl_set (la_Pl j hj).1 (by rw [(la_Pl j hj).2]; simp [cellK, rI_wI, rI_wJ, rJ_wI, rP_wI, rD_wI]) ?_
  rw [(la_Pl j hj).2]
  intro q hv hq
  unfold cellK
  split <;> simp [rI_wI, rI_wJ, rJ_wI, rP_wI, rD_wI]
  all_goals first | done | (simp [okq] at hv; simp at hq; simp_all; done) | (simp [okq] at hv; simp_all; done) | skip
theorem s_Pl_spent {cy : Nat → ClassId} {B : Nat} {σ : Mem} {Y : va_W} {j : Nat} (hj : j < 2) {v : Int32} : (wl cy B σ Y).set (oPl j) (B + oPl j, .inr (5, [.ref (B + oBusy j), .ref (B + oBop j), .ref (B + oOut j), .ref (B + oRb j), .ref (B + oPaid j), .int (rI σ 55 j 0), .int v, .ref (B + oFree j)])) = wl cy B (wI σ 56 j 0 v) Y := by
  refine wl_set (la_Pl j hj).1 (by rw [(la_Pl j hj).2]; simp [cellK, rI_wI, rI_wJ, rJ_wI, rP_wI, rD_wI]) ?_
  rw [(la_Pl j hj).2]
  intro q hv hq
  unfold cellK
  split <;> simp [rI_wI, rI_wJ, rJ_wI, rP_wI, rD_wI]
  all_goals first | done | (simp [okq] at hv; simp at hq; simp_all; done) | (simp [okq] at hv; simp_all; done) | skip
theorem s_Busy {cy : Nat → ClassId} {B : Nat} {σ : Mem} {Y : va_W} {j : Nat} (hj : j < 2) {i : Nat} {v : Int32} : (wl cy B σ Y).set (oBusy j) (B + oBusy j, .inl (cy 0, 80, .inl (upd (fun k => rI σ 50 j k) i v))) = wl cy B (wI σ 50 j i v) Y := by
  refine wl_set (la_Busy j hj).1 (by rw [(la_Busy j hj).2]; simp [cellK, upd, rI_wI, rJ_wI, rP_wI, rD_wI]; try rfl) ?_
  rw [(la_Busy j hj).2]
  intro q hv hq
  unfold cellK
  split <;> simp [rI_wI, rJ_wI, rP_wI, rD_wI]
  all_goals first | done | (simp [okq] at hv; simp at hq; simp_all; done) | (simp [okq] at hv; simp_all; done) | skip
theorem s_Bop {cy : Nat → ClassId} {B : Nat} {σ : Mem} {Y : va_W} {j : Nat} (hj : j < 2) {i : Nat} {v : Int32} : (wl cy B σ Y).set (oBop j) (B + oBop j, .inl (cy 0, 204, .inl (upd (fun k => rI σ 51 j k) i v))) = wl cy B (wI σ 51 j i v) Y := by
  refine wl_set (la_Bop j hj).1 (by rw [(la_Bop j hj).2]; simp [cellK, upd, rI_wI, rJ_wI, rP_wI, rD_wI]; try rfl) ?_
  rw [(la_Bop j hj).2]
  intro q hv hq
  unfold cellK
  split <;> simp [rI_wI, rJ_wI, rP_wI, rD_wI]
  all_goals first | done | (simp [okq] at hv; simp at hq; simp_all; done) | (simp [okq] at hv; simp_all; done) | skip
theorem s_Out {cy : Nat → ClassId} {B : Nat} {σ : Mem} {Y : va_W} {j : Nat} (hj : j < 2) {i : Nat} {v : Int32} : (wl cy B σ Y).set (oOut j) (B + oOut j, .inl (cy 0, 17, .inl (upd (fun k => rI σ 52 j k) i v))) = wl cy B (wI σ 52 j i v) Y := by
  refine wl_set (la_Out j hj).1 (by rw [(la_Out j hj).2]; simp [cellK, upd, rI_wI, rJ_wI, rP_wI, rD_wI]; try rfl) ?_
  rw [(la_Out j hj).2]
  intro q hv hq
  unfold cellK
  split <;> simp [rI_wI, rJ_wI, rP_wI, rD_wI]
  all_goals first | done | (simp [okq] at hv; simp at hq; simp_all; done) | (simp [okq] at hv; simp_all; done) | skip
theorem s_Rb {cy : Nat → ClassId} {B : Nat} {σ : Mem} {Y : va_W} {j : Nat} (hj : j < 2) {i : Nat} {v : Int32} : (wl cy B σ Y).set (oRb j) (B + oRb j, .inl (cy 0, 17, .inl (upd (fun k => rI σ 53 j k) i v))) = wl cy B (wI σ 53 j i v) Y := by
  refine wl_set (la_Rb j hj).1 (by rw [(la_Rb j hj).2]; simp [cellK, upd, rI_wI, rJ_wI, rP_wI, rD_wI]; try rfl) ?_
  rw [(la_Rb j hj).2]
  intro q hv hq
  unfold cellK
  split <;> simp [rI_wI, rJ_wI, rP_wI, rD_wI]
  all_goals first | done | (simp [okq] at hv; simp at hq; simp_all; done) | (simp [okq] at hv; simp_all; done) | skip
theorem s_Paid {cy : Nat → ClassId} {B : Nat} {σ : Mem} {Y : va_W} {j : Nat} (hj : j < 2) {i : Nat} {v : Int32} : (wl cy B σ Y).set (oPaid j) (B + oPaid j, .inl (cy 0, 17, .inl (upd (fun k => rI σ 54 j k) i v))) = wl cy B (wI σ 54 j i v) Y := by
  refine wl_set (la_Paid j hj).1 (by rw [(la_Paid j hj).2]; simp [cellK, upd, rI_wI, rJ_wI, rP_wI, rD_wI]; try rfl) ?_
  rw [(la_Paid j hj).2]
  intro q hv hq
  unfold cellK
  split <;> simp [rI_wI, rJ_wI, rP_wI, rD_wI]
  all_goals first | done | (simp [okq] at hv; simp at hq; simp_all; done) | (simp [okq] at hv; simp_all; done) | skip
theorem s_Free {cy : Nat → ClassId} {B : Nat} {σ : Mem} {Y : va_W} {j : Nat} (hj : j < 2) {i : Nat} {v : Int32} : (wl cy B σ Y).set (oFree j) (B + oFree j, .inl (cy 0, 8, .inl (upd (fun k => rI σ 57 j k) i v))) = wl cy B (wI σ 57 j i v) Y := by
  refine wl_set (la_Free j hj).1 (by rw [(la_Free j hj).2]; simp [cellK, upd, rI_wI, rJ_wI, rP_wI, rD_wI]; try rfl) ?_
  rw [(la_Free j hj).2]
  intro q hv hq
  unfold cellK
  split <;> simp [rI_wI, rJ_wI, rP_wI, rD_wI]
  all_goals first | done | (simp [okq] at hv; simp at hq; simp_all; done) | (simp [okq] at hv; simp_all; done) | skip
theorem s_Odds {cy : Nat → ClassId} {B : Nat} {σ : Mem} {Y : va_W} {i : Nat} {v : UInt64} : (wl cy B σ Y).set (oOdds) (B + oOdds, .inl (cy 4, 193, .inr (.inr (.inr (.inl (vf_upd (fun k => rD σ 0 0 k) i v)))))) = wl cy B (wD σ 0 0 i v) Y := by
  refine wl_set (la_Odds).1 (by rw [(la_Odds).2]; simp [cellK, vf_upd, rI_wD, rJ_wD, rP_wD, rD_wD]; try rfl) ?_
  rw [(la_Odds).2]
  intro q hv hq
  unfold cellK
  split <;> simp [rI_wD, rJ_wD, rP_wD, rD_wD]
  all_goals first | done | (simp [okq] at hv; simp at hq; simp_all; done) | (simp [okq] at hv; simp_all; done) | skip
theorem s_Signs {cy : Nat → ClassId} {B : Nat} {σ : Mem} {Y : va_W} {i : Nat} {v : Int32} : (wl cy B σ Y).set (oSigns) (B + oSigns, .inl (cy 3, 160, .inl (upd (fun k => rI σ 5 0 k) i v))) = wl cy B (wI σ 5 0 i v) Y := by
  refine wl_set (la_Signs).1 (by rw [(la_Signs).2]; simp [cellK, upd, rI_wI, rJ_wI, rP_wI, rD_wI]; try rfl) ?_
  rw [(la_Signs).2]
  intro q hv hq
  unfold cellK
  split <;> simp [rI_wI, rJ_wI, rP_wI, rD_wI]
  all_goals first | done | (simp [okq] at hv; simp at hq; simp_all; done) | (simp [okq] at hv; simp_all; done) | skip
/-- n elements of the array key, from holder j1 to holder j -/
def cpI (σ : Mem) (k j j1 : Nat) (n : Nat) : Mem := (fun a b c => if a = k ∧ b = j ∧ c < n then σ.1 k j1 c else σ.1 a b c, σ.2.1, σ.2.2.1, σ.2.2.2)
theorem rI_cpI (σ : Mem) (k j j1 n k2 b c : Nat) : rI (cpI σ k j j1 n) k2 b c = if k2 = k ∧ b = j ∧ c < n then rI σ k j1 c else rI σ k2 b c := rfl
theorem rJ_cpI (σ : Mem) (k j j1 n k2 b c : Nat) : rJ (cpI σ k j j1 n) k2 b c = rJ σ k2 b c := rfl
theorem rD_cpI (σ : Mem) (k j j1 n k2 b c : Nat) : rD (cpI σ k j j1 n) k2 b c = rD σ k2 b c := rfl
theorem rP_cpI (σ : Mem) (k j j1 n k2 : Nat) : rP (cpI σ k j j1 n) k2 = rP σ k2 := rfl
theorem cp_Que {cy : Nat → ClassId} {B : Nat} {σ : Mem} {Y : va_W} {j : Nat} (hj : j < 12) {j1 : Nat} {n : Nat} : (wl cy B σ Y).set (oQue j) (B + oQue j, .inl (cy 0, 17, .inl (va_cpy (fun k => rI σ 28 j1 k) (fun k => rI σ 28 j k) 0 0 n))) = wl cy B (cpI σ 28 j j1 n) Y := by
  refine wl_set (la_Que j hj).1 (by rw [(la_Que j hj).2]; simp [cellK, rI_cpI]; funext z; simp [va_cpy]) ?_
  rw [(la_Que j hj).2]
  intro q hv hq
  unfold cellK
  split <;> simp [rI_cpI, rJ_cpI, rP_cpI, rD_cpI]
  all_goals first | done | (simp [okq] at hv; simp at hq; simp_all; done) | (simp [okq] at hv; simp_all; done) | skip
theorem cp_Crd {cy : Nat → ClassId} {B : Nat} {σ : Mem} {Y : va_W} {j : Nat} (hj : j < 12) {j1 : Nat} {n : Nat} : (wl cy B σ Y).set (oCrd j) (B + oCrd j, .inl (cy 0, 30, .inl (va_cpy (fun k => rI σ 29 j1 k) (fun k => rI σ 29 j k) 0 0 n))) = wl cy B (cpI σ 29 j j1 n) Y := by
  refine wl_set (la_Crd j hj).1 (by rw [(la_Crd j hj).2]; simp [cellK, rI_cpI]; funext z; simp [va_cpy]) ?_
  rw [(la_Crd j hj).2]
  intro q hv hq
  unfold cellK
  split <;> simp [rI_cpI, rJ_cpI, rP_cpI, rD_cpI]
  all_goals first | done | (simp [okq] at hv; simp at hq; simp_all; done) | (simp [okq] at hv; simp_all; done) | skip
