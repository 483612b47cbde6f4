/-! EW at the law's entry (written by wip/gen/nstartw.py) -/
def fl1 : List Cond := flatC (Jvm.Cond.and given_1 narrow_1)
def tmI (i : Nat) : Term := Term.string "HostelBeds$Input" ((strI.getD i ("", 0, "")).2.1)
def posI : List Nat := [148, 156, 165, 174, 181, 189, 201, 211, 221, 229, 237]
theorem pI_ex : ∀ i, i < 11 → fl1[posI.getD i 0]? = some (Cond.exactly (tmI i) "java/lang/String") := by decide +kernel
theorem pI_co : ∀ i, i < 11 → fl1[posI.getD i 0 + 1]? = some (Cond.eq (.field (tmI i) "java/lang/String" "coder" "B") (.int 0)) := by decide +kernel
theorem pI_ar : ∀ i, i < 11 → fl1[posI.getD i 0 + 2]? = some (Cond.arrayOf (.field (tmI i) "java/lang/String" "value" "[B") .byte) := by decide +kernel
theorem pI_le : ∀ i, i < 11 → fl1[posI.getD i 0 + 3]? = some (Cond.eq (.length (.field (tmI i) "java/lang/String" "value" "[B")) (.int (Int32.ofNat (lenI.getD i 0)))) := by decide +kernel
theorem pI_el : ∀ i, i < 11 → ∀ j, j < lenI.getD i 0 → fl1[posI.getD i 0 + 4 + j]? = some (Cond.eq (.elem (.field (tmI i) "java/lang/String" "value" "[B") (.int (Int32.ofNat j))) (.int ((bytI.getD i []).getD j 0))) := by decide +kernel
def posT : List Nat := [87, 130, 246, 273, 290, 309, 325, 353, 372, 403, 428, 445, 463, 490, 505, 522, 553, 578, 614, 639]
theorem pT_ex : ∀ i, i < 20 → fl1[posT.getD i 0]? = some (Cond.exactly (Term.string (strT.getD i ("", 0, "")).1 (strT.getD i ("", 0, "")).2.1) "java/lang/String") := by decide +kernel
theorem tT : ∀ q ∈ strT, Cond.stringRef q.1 q.2.1 q.2.2 ∈ lw_tbl := by
  intro q hq
  simp only [strT, List.mem_cons, List.not_mem_nil, or_false] at hq
  rcases hq with rfl | rfl | rfl | rfl | rfl | rfl | rfl | rfl | rfl | rfl | rfl | rfl | rfl | rfl | rfl | rfl | rfl | rfl | rfl | rfl
  · exact tw_519
  · exact tw_566
  · exact tw_729
  · exact tw_741
  · exact tw_749
  · exact tw_771
  · exact tw_778
  · exact tw_790
  · exact tw_791
  · exact tw_815
  · exact tw_836
  · exact tw_862
  · exact tw_867
  · exact tw_886
  · exact tw_890
  · exact tw_999
  · exact tw_1027
  · exact tw_1041
  · exact tw_1085
  · exact tw_1112
theorem tI : ∀ q ∈ strI, Cond.stringRef q.1 q.2.1 q.2.2 ∈ lw_tbl := by
  intro q hq
  simp only [strI, List.mem_cons, List.not_mem_nil, or_false] at hq
  rcases hq with rfl | rfl | rfl | rfl | rfl | rfl | rfl | rfl | rfl | rfl | rfl
  · exact tw_597
  · exact tw_662
  · exact tw_663
  · exact tw_664
  · exact tw_673
  · exact tw_687
  · exact tw_692
  · exact tw_709
  · exact tw_714
  · exact tw_719
  · exact tw_724
def posN : List Nat := [39, 40, 38, 28]
theorem pN : ∀ i, i < 4 → fl1[posN.getD i 0]? = some (Cond.not (.castable (ncL.getD i ("", "")).1 (ncL.getD i ("", "")).2)) := by decide +kernel
theorem pU_st : fl1[4]? = some (Jvm.Cond.isRef (Jvm.Term.static "java/lang/Throwable" "UNASSIGNED_STACK" "[Ljava/lang/StackTraceElement;")) := by decide +kernel
theorem pS_st : fl1[5]? = some (Jvm.Cond.isRef (Jvm.Term.static "java/lang/Throwable" "SUPPRESSED_SENTINEL" "Ljava/util/List;")) := by decide +kernel
theorem pC_st : fl1[6]? = some (Jvm.Cond.eq (Jvm.Term.static "java/lang/String" "COMPACT_STRINGS" "Z") (Jvm.Term.int (1 : Int32))) := by decide +kernel
theorem pF_st : fl1[7]? = some (Jvm.Cond.isRef (Jvm.Term.static "jdk/internal/util/Preconditions" "SIOOBE_FORMATTER" "Ljava/util/function/BiFunction;")) := by decide +kernel
