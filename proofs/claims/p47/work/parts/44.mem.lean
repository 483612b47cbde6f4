/-! the class's memory at the start (written by wip/p47gen/nmem.py) -/
def memS : Mem := (fun k _ _ => if k = 1 then -1 else if k = 25 then 60 else if k = 26 then 7 else if k = 27 then 10 else 0, fun _ _ _ => 0, fun _ _ _ => 0, fun k => k)
def layHB : List (Nat × Nat × Nat) := [(0, 0, 0), (1, 0, 0), (2, 0, 0)] ++ layH 0 ++ layH 1 ++ layP 0 ++ layP 1 ++ [(17, 0, 0), (18, 0, 0), (19, 0, 0)] ++ (List.range 10).flatMap (fun j => layH (j + 2))
theorem layHB_len : layHB.length = 380 := by decide +kernel
theorem lay_lo {x : Nat} (_ : x < 380) : lay x = layHB.getD x (0, 0, 0) := rfl
theorem row_lay {cy : Nat → ClassId} {B : Nat} (j : Nat) : (layH j).map (cellK cy B memS) = cellsHostel cy B (hoff j) := rfl
theorem hosts_lay {cy : Nat → ClassId} {B : Nat} : ((List.range 10).flatMap (fun j => layH (j + 2))).map (cellK cy B memS) = hostsL cy B 10 := by
  have h : ∀ n, n ≤ 10 → ((List.range n).flatMap (fun j => layH (j + 2))).map (cellK cy B memS) = hostsL cy B n := by
    intro n
    induction n with
    | zero => intro _; rfl
    | succ n ih =>
      intro hn
      rw [List.range_succ, List.flatMap_append, List.map_append, ih (by omega)]
      show hostsL cy B n ++ (layH (n + 2) ++ []).map _ = hostsL cy B n ++ cellsHostel cy B (80 + 30 * n)
      rw [List.append_nil, row_lay]
      have : hoff (n + 2) = 80 + 30 * n := by unfold hoff; rw [if_neg (by omega)]; omega
      rw [this]
  exact h 10 (Nat.le_refl _)
theorem hb_lay {cy : Nat → ClassId} {B : Nat} : layHB.map (cellK cy B memS) = cellsHB cy B := by
  unfold layHB
  rw [List.map_append, hosts_lay]
  unfold cellsHB
  congr 1
theorem hb_cells {cy : Nat → ClassId} {B : Nat} {F : Nat → va_E} {x : Nat} (hx : x < 380) : fl F 0 (cellsHB cy B) x = cellK cy B memS (lay x) := by
  rw [lay_lo hx, ← hb_lay]
  have hx2 : x < layHB.length := by rw [layHB_len]; exact hx
  unfold fl
  rw [if_neg (Nat.not_lt_zero _), Nat.sub_zero]
  simp [List.getD_eq_getElem?_getD, hx2]
