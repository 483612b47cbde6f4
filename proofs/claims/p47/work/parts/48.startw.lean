/-! EW at the law's entry: the places of its premises (written by wip/p47gen/n47.py) -/
def fl1 : List Cond := flatC (Jvm.Cond.and given_1 narrow_1)
def tmL : List (String × Nat) := [("HostelBeds$Input", 33), ("HostelBeds$Input", 140), ("HostelBeds$Input", 142), ("HostelBeds$Input", 144), ("HostelBeds$Input", 43), ("HostelBeds$Input", 163), ("HostelBeds$Input", 48), ("HostelBeds$Input", 53), ("HostelBeds$Input", 58), ("HostelBeds$Input", 63), ("HostelBeds$Input", 68), ("HostelBedsLaw", 69), ("HostelBedsLaw", 84), ("HostelBedsLaw", 89), ("HostelBedsLaw", 91), ("HostelBedsLaw", 96), ("HostelBedsLaw", 101), ("HostelBedsLaw", 103)]
def tmI (i : Nat) : Term := Term.string (tmL.getD i ("", 0)).1 (tmL.getD i ("", 0)).2
def posI : List Nat := [494, 502, 511, 520, 527, 535, 547, 557, 567, 575, 583, 647, 656, 665, 675, 686, 696, 710]
theorem pI_ex : ∀ i, i < 18 → fl1[posI.getD i 0]? = some (Cond.exactly (tmI i) "java/lang/String") := by decide +kernel
theorem pI_co : ∀ i, i < 18 → fl1[posI.getD i 0 + 1]? = some (Cond.eq (.field (tmI i) "java/lang/String" "coder" "B") (.int 0)) := by decide +kernel
theorem pI_ar : ∀ i, i < 18 → fl1[posI.getD i 0 + 2]? = some (Cond.arrayOf (.field (tmI i) "java/lang/String" "value" "[B") .byte) := by decide +kernel
theorem pI_le : ∀ i, i < 18 → fl1[posI.getD i 0 + 3]? = some (Cond.eq (.length (.field (tmI i) "java/lang/String" "value" "[B")) (.int (Int32.ofNat (lenI.getD i 0)))) := by decide +kernel
theorem pI_el : ∀ i, i < 18 → ∀ j, j < lenI.getD i 0 → fl1[posI.getD i 0 + 4 + j]? = some (Cond.eq (.elem (.field (tmI i) "java/lang/String" "value" "[B") (.int (Int32.ofNat j))) (.int ((bytI.getD i []).getD j 0))) := by decide +kernel
def posT : List Nat := [286, 303, 322, 338, 366, 385, 416, 433, 451, 592, 722, 740, 767, 782]
theorem pT_ex : ∀ i, i < 14 → fl1[posT.getD i 0]? = some (Cond.exactly (Term.string (strT.getD i ("", 0, "")).1 (strT.getD i ("", 0, "")).2.1) "java/lang/String") := by decide +kernel
theorem tT : ∀ q ∈ strT, Cond.stringRef q.1 q.2.1 q.2.2 ∈ lw_tbl := by
  intro q hq
  simp only [strT, List.mem_cons, List.not_mem_nil, or_false] at hq
  rcases hq with rfl | rfl | rfl | rfl | rfl | rfl | rfl | rfl | rfl | rfl | rfl | rfl | rfl | rfl
  · exact tw_372
  · exact tw_402
  · exact tw_420
  · exact tw_427
  · exact tw_436
  · exact tw_437
  · exact tw_446
  · exact tw_492
  · exact tw_554
  · exact tw_702
  · exact tw_1034
  · exact tw_1048
  · exact tw_1119
  · exact tw_1123
theorem tI : ∀ q ∈ strI, Cond.stringRef q.1 q.2.1 q.2.2 ∈ lw_tbl := by
  intro q hq
  simp only [strI, List.mem_cons, List.not_mem_nil, or_false] at hq
  rcases hq with rfl | rfl | rfl | rfl | rfl | rfl | rfl | rfl | rfl | rfl | rfl
  · exact tw_590
  · exact tw_609
  · exact tw_610
  · exact tw_611
  · exact tw_620
  · exact tw_637
  · exact tw_665
  · exact tw_682
  · exact tw_687
  · exact tw_692
  · exact tw_697
theorem tW : ∀ q ∈ strW, Cond.stringRef "HostelBedsLaw" q.1 q.2.1 ∈ lw_tbl := by
  intro q hq
  simp only [strW, List.mem_cons, List.not_mem_nil, or_false] at hq
  rcases hq with rfl | rfl | rfl | rfl | rfl | rfl | rfl | rfl | rfl | rfl
  · exact tw_778
  · exact tw_779
  · exact tw_780
  · exact tw_811
  · exact tw_947
  · exact tw_951
  · exact tw_952
  · exact tw_953
  · exact tw_954
  · exact tw_955
/-- the three texts that the class has too -/
def posW : List Nat := [628, 638, 646]
theorem pW_eq : ∀ i, i < 3 → fl1[posW.getD i 0]? = some (Cond.eq (tmI (i + 1)) (Term.string "HostelBedsLaw" (strW.getD i (0, "", 0)).1)) := by decide +kernel
def posN : List Nat := [234, 238, 237, 225]
theorem pN : ∀ i, i < 4 → fl1[posN.getD i 0]? = some (Cond.not (.castable (ncL.getD i ("", "")).1 (ncL.getD i ("", "")).2)) := by decide +kernel
theorem pU_st : fl1[4]? = some (Jvm.Cond.isRef (Jvm.Term.static "java/lang/Throwable" "UNASSIGNED_STACK" "[Ljava/lang/StackTraceElement;")) := by decide +kernel
theorem pS_st : fl1[5]? = some (Jvm.Cond.isRef (Jvm.Term.static "java/lang/Throwable" "SUPPRESSED_SENTINEL" "Ljava/util/List;")) := by decide +kernel
theorem pC_st : fl1[6]? = some (Jvm.Cond.eq (Jvm.Term.static "java/lang/String" "COMPACT_STRINGS" "Z") (Jvm.Term.int (1 : Int32))) := by decide +kernel
theorem pF_st : fl1[7]? = some (Jvm.Cond.isRef (Jvm.Term.static "jdk/internal/util/Preconditions" "SIOOBE_FORMATTER" "Ljava/util/function/BiFunction;")) := by decide +kernel
theorem pO_ar : fl1[12]? = some (Cond.arrayOf (Jvm.Term.static "java/lang/Integer" "DigitOnes" "[B") .byte) := by decide +kernel
theorem pO_le : fl1[13]? = some (Cond.eq (.length (Jvm.Term.static "java/lang/Integer" "DigitOnes" "[B")) (.int 100)) := by decide +kernel
theorem pO_el : ∀ j, j < 100 → fl1[14 + j]? = some (Cond.eq (.elem (Jvm.Term.static "java/lang/Integer" "DigitOnes" "[B") (.int (Int32.ofNat j))) (.int (Int32.ofNat (48 + j % 10)))) := by decide +kernel
theorem pD_ar : fl1[115]? = some (Cond.arrayOf (Jvm.Term.static "java/lang/Integer" "DigitTens" "[B") .byte) := by decide +kernel
theorem pD_le : fl1[116]? = some (Cond.eq (.length (Jvm.Term.static "java/lang/Integer" "DigitTens" "[B")) (.int 100)) := by decide +kernel
theorem pD_el : ∀ j, j < 100 → fl1[117 + j]? = some (Cond.eq (.elem (Jvm.Term.static "java/lang/Integer" "DigitTens" "[B") (.int (Int32.ofNat j))) (.int (Int32.ofNat (48 + j / 10)))) := by decide +kernel
