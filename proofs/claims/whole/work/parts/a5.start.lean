/-! the start: what the Statement gives of it -/
abbrev gvC : Cond := Jvm.Cond.and given_1 narrow_1
def nrL : List Cond := flatC gvC
def sTm (i : Nat) : Term := .string (strL.getD i ("", 0, "", 0)).1 (strL.getD i ("", 0, "", 0)).2.1
def sVl (i : Nat) : Term := .field (sTm i) "java/lang/String" "value" "[B"
def sA (i : Nat) : List Cond := [Cond.exactly (sTm i) "java/lang/String", Cond.eq (.field (sTm i) "java/lang/String" "coder" "B") (.int 0), Cond.arrayOf (sVl i) .byte, Cond.eq (.length (sVl i)) (.int (Int32.ofNat (lenS.getD i 0)))] ++ (List.range (lenS.getD i 0)).map (fun j => Cond.eq (.elem (sVl i) (.int (Int32.ofNat j))) (.int ((bytS.getD i []).getD j 0)))
theorem q_str : nrL.drop 283 = (List.range 35).flatMap sA ++ (Cond.eq (.string "BasicMachine$Parser" 126) (.string "BasicMachine$Statement" 84) :: (List.range 9).flatMap (fun i => sA (35 + i))) := by decide +kernel
theorem s_in {i : Nat} (hi : i < 44) : ∀ c ∈ sA i, c ∈ nrL := by
  intro c hc
  apply List.mem_of_mem_drop (i := 283)
  rw [q_str]
  by_cases h : i < 35
  · exact List.mem_append_left _ (List.mem_flatMap.mpr ⟨i, List.mem_range.mpr h, hc⟩)
  · refine List.mem_append_right _ (List.mem_cons_of_mem _ (List.mem_flatMap.mpr ⟨i - 35, List.mem_range.mpr (by omega), ?_⟩))
    rw [show 35 + (i - 35) = i by omega]
    exact hc
def eTm (C d : String) (nm : List String) (i : Nat) : Term := .static C (nm.getD i "") d
def eqO (C d : String) (nm : List String) (i : Nat) : Cond := Cond.eq (.field (eTm C d nm i) "java/lang/Enum" "ordinal" "I") (.int (nI i))
def enW (C d : String) (nm : List String) : Prop := (∀ i, i < nm.length → Cond.exactly (eTm C d nm i) C ∈ nrL) ∧ (∀ i, i < nm.length → eqO C d nm i ∈ nrL) ∧ (∀ i, i < nm.length → Cond.laysStatic C (nm.getD i "") d ∈ tables_1) ∧ Cond.initialized C ∈ tables_1
abbrev cS : String := "BasicMachine$Statement"
abbrev cF : String := "BasicMachine$Form"
abbrev cG : String := "BasicMachine$Fault"
abbrev dS : String := "LBasicMachine$Statement;"
abbrev dF : String := "LBasicMachine$Form;"
abbrev dG : String := "LBasicMachine$Fault;"
theorem q_en1 : enW cS dS en1000 := ⟨by decide +kernel, by decide +kernel, by decide +kernel, by decide +kernel⟩
theorem q_en2 : enW cF dF en1100 := ⟨by decide +kernel, by decide +kernel, by decide +kernel, by decide +kernel⟩
theorem q_en3 : enW cG dG en1200 := ⟨by decide +kernel, by decide +kernel, by decide +kernel, by decide +kernel⟩
def nqC (a b : Term) : Prop := Cond.not (Cond.eq a b) ∈ nrL ∨ Cond.not (Cond.eq b a) ∈ nrL
theorem q_n12 : ∀ i, i < 9 → (Cond.not (Cond.eq (eTm cS dS en1000 i) (eTm cF dF en1100 i)) ∈ nrL ∨ Cond.not (Cond.eq (eTm cF dF en1100 i) (eTm cS dS en1000 i)) ∈ nrL) := by decide +kernel
theorem q_n13 : ∀ i, i < 7 → (Cond.not (Cond.eq (eTm cS dS en1000 i) (eTm cG dG en1200 i)) ∈ nrL ∨ Cond.not (Cond.eq (eTm cG dG en1200 i) (eTm cS dS en1000 i)) ∈ nrL) := by decide +kernel
theorem q_n23 : ∀ i, i < 7 → (Cond.not (Cond.eq (eTm cF dF en1100 i) (eTm cG dG en1200 i)) ∈ nrL ∨ Cond.not (Cond.eq (eTm cG dG en1200 i) (eTm cF dF en1100 i)) ∈ nrL) := by decide +kernel
def tTm (n : String) : Term := .static "BasicMachine$1" n "[I"
def tbW (n : String) (l : List Int32) : Prop := Cond.arrayOf (tTm n) .int ∈ nrL ∧ Cond.eq (.length (tTm n)) (.int (Int32.ofNat l.length)) ∈ nrL ∧ (∀ j, j < l.length → Cond.eq (.elem (tTm n) (.int (Int32.ofNat j))) (.int (l.getD j 0)) ∈ nrL) ∧ Cond.laysStatic "BasicMachine$1" n "[I" ∈ tables_1
theorem q_tb1 : tbW "$SwitchMap$BasicMachine$Statement" tb1300 := ⟨by decide +kernel, by decide +kernel, by decide +kernel, by decide +kernel⟩
theorem q_tb2 : tbW "$SwitchMap$BasicMachine$Form" tb1301 := ⟨by decide +kernel, by decide +kernel, by decide +kernel, by decide +kernel⟩
theorem q_tb3 : tbW "$SwitchMap$BasicMachine$Fault" tb1302 := ⟨by decide +kernel, by decide +kernel, by decide +kernel, by decide +kernel⟩
theorem q_i1 : Cond.initialized "BasicMachine$1" ∈ tables_1 := List.mem_of_getElem? (i := 24) (by decide +kernel)
def saT : Term := .static "BasicMachine" "STATEMENTS" "[LBasicMachine$Statement;"
theorem q_sa : Cond.arrayOf saT (.object "BasicMachine$Statement") ∈ nrL ∧ Cond.eq (.length saT) (.int (Int32.ofNat 17)) ∈ nrL ∧ (∀ j, j < 17 → Cond.eq (.elem saT (.int (Int32.ofNat j))) (eTm cS dS en1000 j) ∈ nrL) ∧ Cond.laysStatic "BasicMachine" "STATEMENTS" "[LBasicMachine$Statement;" ∈ tables_1 ∧ Cond.initialized "BasicMachine" ∈ tables_1 := ⟨by decide +kernel, by decide +kernel, by decide +kernel, by decide +kernel, by decide +kernel⟩
theorem q_wd : ∀ i, i < 17 → Cond.eq (.field (eTm cS dS en1000 i) "BasicMachine$Statement" "word" "Ljava/lang/String;") (sTm (wdS.getD i 0)) ∈ nrL ∧ wdS.getD i 0 < 44 := by decide +kernel
theorem q_mi : (Cond.eq (.static "java/lang/String" "COMPACT_STRINGS" "Z") (.int 1) ∈ nrL ∧ Cond.isRef (.static "jdk/internal/util/Preconditions" "SIOOBE_FORMATTER" "Ljava/util/function/BiFunction;") ∈ nrL) ∧ Cond.laysStatic "java/lang/String" "COMPACT_STRINGS" "Z" ∈ tables_1 ∧ Cond.laysStatic "jdk/internal/util/Preconditions" "SIOOBE_FORMATTER" "Ljava/util/function/BiFunction;" ∈ tables_1 ∧ Cond.initialized "java/lang/String" ∈ tables_1 ∧ Cond.initialized "jdk/internal/util/Preconditions" ∈ tables_1 := ⟨⟨by decide +kernel, by decide +kernel⟩, by decide +kernel, by decide +kernel, by decide +kernel, by decide +kernel⟩
theorem q_th : (Cond.isRef (.static "java/lang/Throwable" "UNASSIGNED_STACK" "[Ljava/lang/StackTraceElement;") ∈ nrL ∧ Cond.isRef (.static "java/lang/Throwable" "SUPPRESSED_SENTINEL" "Ljava/util/List;") ∈ nrL) ∧ Cond.laysStatic "java/lang/Throwable" "UNASSIGNED_STACK" "[Ljava/lang/StackTraceElement;" ∈ tables_1 ∧ Cond.laysStatic "java/lang/Throwable" "SUPPRESSED_SENTINEL" "Ljava/util/List;" ∈ tables_1 := ⟨⟨by decide +kernel, by decide +kernel⟩, by decide +kernel, by decide +kernel⟩
theorem q_cs : ∀ i, i < 6 → ∀ j, j < 6 → i ≠ j → Cond.not (Cond.castable (exN.getD i "") (exN.getD j "")) ∈ nrL := by decide +kernel
theorem q_dc : ∀ X ∈ ["java/lang/RuntimeException", "java/lang/Exception", "java/lang/Throwable"], Cond.declares ⟨X, "<init>", "(Ljava/lang/String;)V"⟩ ∈ tables_1 := by decide +kernel
theorem q_sr : ∀ i, i < 44 → Cond.stringRef (strL.getD i ("", 0, "", 0)).1 (strL.getD i ("", 0, "", 0)).2.1 (strL.getD i ("", 0, "", 0)).2.2.1 ∈ tables_1 := by decide +kernel
theorem q_ix : ∀ i, i < 44 → (strL.getD i ("", 0, "", 0)).2.2.2 = i := by decide +kernel
theorem q_ln : ∀ i, i < 44 → lenS.getD i 0 < 2 ^ 31 := by decide +kernel
theorem q_sl : strL.length = 44 := by decide +kernel
theorem q_it : Cond.instantiable (fC 1) (nf 1) ∈ tables_1 ∧ Cond.instantiable (fC 2) (nf 2) ∈ tables_1 ∧ Cond.instantiable (fC 3) (nf 3) ∈ tables_1 ∧ Cond.instantiable (fC 4) (nf 4) ∈ tables_1 ∧ Cond.instantiable (fC 5) (nf 5) ∈ tables_1 ∧ Cond.instantiable (fC 6) (nf 6) ∈ tables_1 ∧ Cond.instantiable (fC 7) (nf 7) ∈ tables_1 ∧ Cond.instantiable (fC 8) (nf 8) ∈ tables_1 ∧ Cond.instantiable (fC 9) (nf 9) ∈ tables_1 := by decide +kernel
theorem q_ar : (∀ k, k ∈ [51, 52, 53, 54] → Cond.arrayClass (arT k) ∈ tables_1) ∧ Cond.arrayOver (.object "BasicMachine$Line") ∈ tables_1 := ⟨by decide +kernel, by decide +kernel⟩
