/-! THE START -/
def CF : List Cond := flatC (Jvm.Cond.and given_1 narrow_1)
def tmS (i : Nat) : Term := .string "EvenSpring$SpringText" (stI.getD i 0)
def tmT (t : Nat) : Term := .static "EvenSpring$Calendar" (tbn t) "[I"
theorem cf_ex : ∀ i, i < 14 → Cond.exactly (tmS i) "java/lang/String" ∈ CF := by decide +kernel
theorem cf_co : ∀ i, i < 14 → Cond.eq (.field (tmS i) "java/lang/String" "coder" "B") (.int 0) ∈ CF := by decide +kernel
theorem cf_ar : ∀ i, i < 14 → Cond.arrayOf (.field (tmS i) "java/lang/String" "value" "[B") .byte ∈ CF := by decide +kernel
theorem cf_le : ∀ i, i < 14 → Cond.eq (.length (.field (tmS i) "java/lang/String" "value" "[B")) (.int (Int32.ofNat (stL.getD i 0))) ∈ CF := by decide +kernel
theorem cf_el : ∀ i, i < 14 → ∀ j, j < stL.getD i 0 → Cond.eq (.elem (.field (tmS i) "java/lang/String" "value" "[B") (.int (Int32.ofNat j))) (.int ((stB.getD i []).getD j 0)) ∈ CF := by decide +kernel
theorem cf_ne0 : ∀ j, j < 14 → 0 ≠ j → Cond.not (Cond.eq (tmS 0) (tmS j)) ∈ CF ∨ Cond.not (Cond.eq (tmS j) (tmS 0)) ∈ CF := by decide +kernel
theorem cf_ne1 : ∀ j, j < 14 → 1 ≠ j → Cond.not (Cond.eq (tmS 1) (tmS j)) ∈ CF ∨ Cond.not (Cond.eq (tmS j) (tmS 1)) ∈ CF := by decide +kernel
theorem cf_ne2 : ∀ j, j < 14 → 2 ≠ j → Cond.not (Cond.eq (tmS 2) (tmS j)) ∈ CF ∨ Cond.not (Cond.eq (tmS j) (tmS 2)) ∈ CF := by decide +kernel
theorem cf_ne3 : ∀ j, j < 14 → 3 ≠ j → Cond.not (Cond.eq (tmS 3) (tmS j)) ∈ CF ∨ Cond.not (Cond.eq (tmS j) (tmS 3)) ∈ CF := by decide +kernel
theorem cf_ne4 : ∀ j, j < 14 → 4 ≠ j → Cond.not (Cond.eq (tmS 4) (tmS j)) ∈ CF ∨ Cond.not (Cond.eq (tmS j) (tmS 4)) ∈ CF := by decide +kernel
theorem cf_ne5 : ∀ j, j < 14 → 5 ≠ j → Cond.not (Cond.eq (tmS 5) (tmS j)) ∈ CF ∨ Cond.not (Cond.eq (tmS j) (tmS 5)) ∈ CF := by decide +kernel
theorem cf_ne6 : ∀ j, j < 14 → 6 ≠ j → Cond.not (Cond.eq (tmS 6) (tmS j)) ∈ CF ∨ Cond.not (Cond.eq (tmS j) (tmS 6)) ∈ CF := by decide +kernel
theorem cf_ne7 : ∀ j, j < 14 → 7 ≠ j → Cond.not (Cond.eq (tmS 7) (tmS j)) ∈ CF ∨ Cond.not (Cond.eq (tmS j) (tmS 7)) ∈ CF := by decide +kernel
theorem cf_ne8 : ∀ j, j < 14 → 8 ≠ j → Cond.not (Cond.eq (tmS 8) (tmS j)) ∈ CF ∨ Cond.not (Cond.eq (tmS j) (tmS 8)) ∈ CF := by decide +kernel
theorem cf_ne9 : ∀ j, j < 14 → 9 ≠ j → Cond.not (Cond.eq (tmS 9) (tmS j)) ∈ CF ∨ Cond.not (Cond.eq (tmS j) (tmS 9)) ∈ CF := by decide +kernel
theorem cf_ne10 : ∀ j, j < 14 → 10 ≠ j → Cond.not (Cond.eq (tmS 10) (tmS j)) ∈ CF ∨ Cond.not (Cond.eq (tmS j) (tmS 10)) ∈ CF := by decide +kernel
theorem cf_ne11 : ∀ j, j < 14 → 11 ≠ j → Cond.not (Cond.eq (tmS 11) (tmS j)) ∈ CF ∨ Cond.not (Cond.eq (tmS j) (tmS 11)) ∈ CF := by decide +kernel
theorem cf_ne12 : ∀ j, j < 14 → 12 ≠ j → Cond.not (Cond.eq (tmS 12) (tmS j)) ∈ CF ∨ Cond.not (Cond.eq (tmS j) (tmS 12)) ∈ CF := by decide +kernel
theorem cf_ne13 : ∀ j, j < 14 → 13 ≠ j → Cond.not (Cond.eq (tmS 13) (tmS j)) ∈ CF ∨ Cond.not (Cond.eq (tmS j) (tmS 13)) ∈ CF := by decide +kernel
theorem cf_ne : ∀ i, i < 14 → ∀ j, j < 14 → i ≠ j → Cond.not (Cond.eq (tmS i) (tmS j)) ∈ CF ∨ Cond.not (Cond.eq (tmS j) (tmS i)) ∈ CF := by
  intro i hi
  rcases (show i = 0 ∨ i = 1 ∨ i = 2 ∨ i = 3 ∨ i = 4 ∨ i = 5 ∨ i = 6 ∨ i = 7 ∨ i = 8 ∨ i = 9 ∨ i = 10 ∨ i = 11 ∨ i = 12 ∨ i = 13 by omega) with rfl | rfl | rfl | rfl | rfl | rfl | rfl | rfl | rfl | rfl | rfl | rfl | rfl | rfl
  · exact cf_ne0
  · exact cf_ne1
  · exact cf_ne2
  · exact cf_ne3
  · exact cf_ne4
  · exact cf_ne5
  · exact cf_ne6
  · exact cf_ne7
  · exact cf_ne8
  · exact cf_ne9
  · exact cf_ne10
  · exact cf_ne11
  · exact cf_ne12
  · exact cf_ne13
theorem cf_ta : ∀ t, t < 3 → Cond.arrayOf (tmT t) .int ∈ CF := by decide +kernel
theorem cf_tl : ∀ t, t < 3 → Cond.eq (.length (tmT t)) (.int (Int32.ofNat 5)) ∈ CF := by decide +kernel
theorem cf_te : ∀ t, t < 3 → ∀ j, j < 5 → Cond.eq (.elem (tmT t) (.int (Int32.ofNat j))) (.int (tbv t j)) ∈ CF := by decide +kernel
theorem cf_cs : Cond.eq (.static "java/lang/String" "COMPACT_STRINGS" "Z") (.int 1) ∈ CF := by decide +kernel
theorem cf_fm : Cond.isRef (.static "jdk/internal/util/Preconditions" "SIOOBE_FORMATTER" "Ljava/util/function/BiFunction;") ∈ CF := by decide +kernel
theorem ls_0 : Cond.laysStatic RX0 (tbn 0) "[I" ∈ lw_tbl := inT_1 (List.mem_of_getElem? (i := 199) rfl)
theorem ls_1 : Cond.laysStatic RX0 (tbn 1) "[I" ∈ lw_tbl := inT_1 (List.mem_of_getElem? (i := 201) rfl)
theorem ls_2 : Cond.laysStatic RX0 (tbn 2) "[I" ∈ lw_tbl := inT_1 (List.mem_of_getElem? (i := 217) rfl)
theorem ls_cs : Cond.laysStatic "java/lang/String" "COMPACT_STRINGS" "Z" ∈ lw_tbl := inT_3 (List.mem_of_getElem? (i := 88) rfl)
theorem ls_fm : Cond.laysStatic "jdk/internal/util/Preconditions" "SIOOBE_FORMATTER" "Ljava/util/function/BiFunction;" ∈ lw_tbl := inT_3 (List.mem_of_getElem? (i := 104) rfl)
theorem in_x0 : Cond.initialized RX0 ∈ lw_tbl := inT_1 (List.mem_of_getElem? (i := 3) rfl)
theorem in_str : Cond.initialized "java/lang/String" ∈ lw_tbl := inT_1 (List.mem_of_getElem? (i := 11) rfl)
theorem in_pre : Cond.initialized "jdk/internal/util/Preconditions" ∈ lw_tbl := inT_1 (List.mem_of_getElem? (i := 13) rfl)
theorem sr_0 : Cond.stringRef RX4 (stI.getD 0 0) (stT.getD 0 "") ∈ lw_tbl := inT_3 (List.mem_of_getElem? (i := 74) rfl)
theorem sr_1 : Cond.stringRef RX4 (stI.getD 1 0) (stT.getD 1 "") ∈ lw_tbl := inT_3 (List.mem_of_getElem? (i := 138) rfl)
theorem sr_2 : Cond.stringRef RX4 (stI.getD 2 0) (stT.getD 2 "") ∈ lw_tbl := inT_3 (List.mem_of_getElem? (i := 143) rfl)
theorem sr_3 : Cond.stringRef RX4 (stI.getD 3 0) (stT.getD 3 "") ∈ lw_tbl := inT_3 (List.mem_of_getElem? (i := 166) rfl)
theorem sr_4 : Cond.stringRef RX4 (stI.getD 4 0) (stT.getD 4 "") ∈ lw_tbl := inT_3 (List.mem_of_getElem? (i := 174) rfl)
theorem sr_5 : Cond.stringRef RX4 (stI.getD 5 0) (stT.getD 5 "") ∈ lw_tbl := inT_3 (List.mem_of_getElem? (i := 175) rfl)
theorem sr_6 : Cond.stringRef RX4 (stI.getD 6 0) (stT.getD 6 "") ∈ lw_tbl := inT_3 (List.mem_of_getElem? (i := 176) rfl)
theorem sr_7 : Cond.stringRef RX4 (stI.getD 7 0) (stT.getD 7 "") ∈ lw_tbl := inT_3 (List.mem_of_getElem? (i := 136) rfl)
theorem sr_8 : Cond.stringRef RX4 (stI.getD 8 0) (stT.getD 8 "") ∈ lw_tbl := inT_3 (List.mem_of_getElem? (i := 159) rfl)
theorem sr_9 : Cond.stringRef RX4 (stI.getD 9 0) (stT.getD 9 "") ∈ lw_tbl := inT_3 (List.mem_of_getElem? (i := 160) rfl)
theorem sr_10 : Cond.stringRef RX4 (stI.getD 10 0) (stT.getD 10 "") ∈ lw_tbl := inT_3 (List.mem_of_getElem? (i := 161) rfl)
theorem sr_11 : Cond.stringRef RX4 (stI.getD 11 0) (stT.getD 11 "") ∈ lw_tbl := inT_3 (List.mem_of_getElem? (i := 162) rfl)
theorem sr_12 : Cond.stringRef RX4 (stI.getD 12 0) (stT.getD 12 "") ∈ lw_tbl := inT_3 (List.mem_of_getElem? (i := 163) rfl)
theorem sr_13 : Cond.stringRef RX4 (stI.getD 13 0) (stT.getD 13 "") ∈ lw_tbl := inT_3 (List.mem_of_getElem? (i := 164) rfl)
theorem sr_all : ∀ i, i < 14 → Cond.stringRef RX4 (stI.getD i 0) (stT.getD i "") ∈ lw_tbl := by
  intro i hi
  rcases (show i = 0 ∨ i = 1 ∨ i = 2 ∨ i = 3 ∨ i = 4 ∨ i = 5 ∨ i = 6 ∨ i = 7 ∨ i = 8 ∨ i = 9 ∨ i = 10 ∨ i = 11 ∨ i = 12 ∨ i = 13 by omega) with rfl | rfl | rfl | rfl | rfl | rfl | rfl | rfl | rfl | rfl | rfl | rfl | rfl | rfl
  · exact sr_0
  · exact sr_1
  · exact sr_2
  · exact sr_3
  · exact sr_4
  · exact sr_5
  · exact sr_6
  · exact sr_7
  · exact sr_8
  · exact sr_9
  · exact sr_10
  · exact sr_11
  · exact sr_12
  · exact sr_13
theorem ls_all : ∀ t, t < 3 → Cond.laysStatic RX0 (tbn t) "[I" ∈ lw_tbl := by
  intro t ht
  rcases (show t = 0 ∨ t = 1 ∨ t = 2 by omega) with rfl | rfl | rfl
  · exact ls_0
  · exact ls_1
  · exact ls_2
theorem nw_0 {w : Cond} (h : NW[0]? = some w) : w ∈ lw_tbl := by
  cases h
  exact inT_1 (List.mem_of_getElem? (i := 34) rfl)
theorem nw_1 {w : Cond} (h : NW[1]? = some w) : w ∈ lw_tbl := by
  cases h
  exact inT_1 (List.mem_of_getElem? (i := 44) rfl)
theorem nw_2 {w : Cond} (h : NW[2]? = some w) : w ∈ lw_tbl := by
  cases h
  exact inT_1 (List.mem_of_getElem? (i := 49) rfl)
theorem nw_3 {w : Cond} (h : NW[3]? = some w) : w ∈ lw_tbl := by
  cases h
  exact inT_1 (List.mem_of_getElem? (i := 50) rfl)
theorem nw_4 {w : Cond} (h : NW[4]? = some w) : w ∈ lw_tbl := by
  cases h
  exact inT_1 (List.mem_of_getElem? (i := 52) rfl)
theorem nw_5 {w : Cond} (h : NW[5]? = some w) : w ∈ lw_tbl := by
  cases h
  exact inT_1 (List.mem_of_getElem? (i := 54) rfl)
theorem nw_6 {w : Cond} (h : NW[6]? = some w) : w ∈ lw_tbl := by
  cases h
  exact inT_1 (List.mem_of_getElem? (i := 55) rfl)
theorem nw_7 {w : Cond} (h : NW[7]? = some w) : w ∈ lw_tbl := by
  cases h
  exact inT_1 (List.mem_of_getElem? (i := 64) rfl)
theorem nw_8 {w : Cond} (h : NW[8]? = some w) : w ∈ lw_tbl := by
  cases h
  exact inT_1 (List.mem_of_getElem? (i := 66) rfl)
theorem nw_9 {w : Cond} (h : NW[9]? = some w) : w ∈ lw_tbl := by
  cases h
  exact inT_1 (List.mem_of_getElem? (i := 67) rfl)
theorem nw_10 {w : Cond} (h : NW[10]? = some w) : w ∈ lw_tbl := by
  cases h
  exact inT_1 (List.mem_of_getElem? (i := 69) rfl)
theorem nw_11 {w : Cond} (h : NW[11]? = some w) : w ∈ lw_tbl := by
  cases h
  exact inT_1 (List.mem_of_getElem? (i := 70) rfl)
theorem nw_12 {w : Cond} (h : NW[12]? = some w) : w ∈ lw_tbl := by
  cases h
  exact inT_1 (List.mem_of_getElem? (i := 72) rfl)
theorem nw_13 {w : Cond} (h : NW[13]? = some w) : w ∈ lw_tbl := by
  cases h
  exact inT_1 (List.mem_of_getElem? (i := 74) rfl)
theorem nw_14 {w : Cond} (h : NW[14]? = some w) : w ∈ lw_tbl := by
  cases h
  exact inT_1 (List.mem_of_getElem? (i := 75) rfl)
theorem nw_15 {w : Cond} (h : NW[15]? = some w) : w ∈ lw_tbl := by
  cases h
  exact inT_1 (List.mem_of_getElem? (i := 77) rfl)
theorem nw_16 {w : Cond} (h : NW[16]? = some w) : w ∈ lw_tbl := by
  cases h
  exact inT_1 (List.mem_of_getElem? (i := 79) rfl)
theorem nw_17 {w : Cond} (h : NW[17]? = some w) : w ∈ lw_tbl := by
  cases h
  exact inT_1 (List.mem_of_getElem? (i := 80) rfl)
theorem nw_18 {w : Cond} (h : NW[18]? = some w) : w ∈ lw_tbl := by
  cases h
  exact inT_1 (List.mem_of_getElem? (i := 104) rfl)
theorem nw_19 {w : Cond} (h : NW[19]? = some w) : w ∈ lw_tbl := by
  cases h
  exact inT_1 (List.mem_of_getElem? (i := 112) rfl)
theorem nw_20 {w : Cond} (h : NW[20]? = some w) : w ∈ lw_tbl := by
  cases h
  exact inT_1 (List.mem_of_getElem? (i := 114) rfl)
theorem nw_21 {w : Cond} (h : NW[21]? = some w) : w ∈ lw_tbl := by
  cases h
  exact inT_1 (List.mem_of_getElem? (i := 138) rfl)
theorem nw_22 {w : Cond} (h : NW[22]? = some w) : w ∈ lw_tbl := by
  cases h
  exact inT_1 (List.mem_of_getElem? (i := 140) rfl)
theorem nw_23 {w : Cond} (h : NW[23]? = some w) : w ∈ lw_tbl := by
  cases h
  exact inT_1 (List.mem_of_getElem? (i := 142) rfl)
theorem nw_24 {w : Cond} (h : NW[24]? = some w) : w ∈ lw_tbl := by
  cases h
  exact inT_1 (List.mem_of_getElem? (i := 147) rfl)
theorem nw_25 {w : Cond} (h : NW[25]? = some w) : w ∈ lw_tbl := by
  cases h
  exact inT_1 (List.mem_of_getElem? (i := 149) rfl)
theorem nw_26 {w : Cond} (h : NW[26]? = some w) : w ∈ lw_tbl := by
  cases h
  exact inT_1 (List.mem_of_getElem? (i := 151) rfl)
theorem nw_27 {w : Cond} (h : NW[27]? = some w) : w ∈ lw_tbl := by
  cases h
  exact inT_2 (List.mem_of_getElem? (i := 134) rfl)
theorem nw_28 {w : Cond} (h : NW[28]? = some w) : w ∈ lw_tbl := by
  cases h
  exact inT_2 (List.mem_of_getElem? (i := 138) rfl)
theorem nw_29 {w : Cond} (h : NW[29]? = some w) : w ∈ lw_tbl := by
  cases h
  exact inT_3 (List.mem_of_getElem? (i := 135) rfl)
theorem NW_tbl : ∀ w ∈ NW, w ∈ lw_tbl := by
  intro w hw
  obtain ⟨i, hi⟩ := List.getElem?_of_mem hw
  have hl : i < 30 := (List.getElem?_eq_some_iff.mp hi).1
  rcases (show i = 0 ∨ i = 1 ∨ i = 2 ∨ i = 3 ∨ i = 4 ∨ i = 5 ∨ i = 6 ∨ i = 7 ∨ i = 8 ∨ i = 9 ∨ i = 10 ∨ i = 11 ∨ i = 12 ∨ i = 13 ∨ i = 14 ∨ i = 15 ∨ i = 16 ∨ i = 17 ∨ i = 18 ∨ i = 19 ∨ i = 20 ∨ i = 21 ∨ i = 22 ∨ i = 23 ∨ i = 24 ∨ i = 25 ∨ i = 26 ∨ i = 27 ∨ i = 28 ∨ i = 29 by omega) with rfl | rfl | rfl | rfl | rfl | rfl | rfl | rfl | rfl | rfl | rfl | rfl | rfl | rfl | rfl | rfl | rfl | rfl | rfl | rfl | rfl | rfl | rfl | rfl | rfl | rfl | rfl | rfl | rfl | rfl
  · exact nw_0 hi
  · exact nw_1 hi
  · exact nw_2 hi
  · exact nw_3 hi
  · exact nw_4 hi
  · exact nw_5 hi
  · exact nw_6 hi
  · exact nw_7 hi
  · exact nw_8 hi
  · exact nw_9 hi
  · exact nw_10 hi
  · exact nw_11 hi
  · exact nw_12 hi
  · exact nw_13 hi
  · exact nw_14 hi
  · exact nw_15 hi
  · exact nw_16 hi
  · exact nw_17 hi
  · exact nw_18 hi
  · exact nw_19 hi
  · exact nw_20 hi
  · exact nw_21 hi
  · exact nw_22 hi
  · exact nw_23 hi
  · exact nw_24 hi
  · exact nw_25 hi
  · exact nw_26 hi
  · exact nw_27 hi
  · exact nw_28 hi
  · exact nw_29 hi
theorem ao_X0 : Cond.arrayOver (.object RX0) ∈ lw_tbl := inT_1 (List.mem_of_getElem? (i := 30) rfl)
theorem ao_X1 : Cond.arrayOver (.object RX1) ∈ lw_tbl := inT_1 (List.mem_of_getElem? (i := 32) rfl)
theorem ao_X2 : Cond.arrayOver (.object RX2) ∈ lw_tbl := inT_1 (List.mem_of_getElem? (i := 136) rfl)
theorem ac_int : Cond.arrayClass .int ∈ lw_tbl := inT_1 (List.mem_of_getElem? (i := 42) rfl)
theorem ac_long : Cond.arrayClass .long ∈ lw_tbl := inT_1 (List.mem_of_getElem? (i := 159) rfl)
theorem ac_byte : Cond.arrayClass .byte ∈ lw_tbl := inT_1 (List.mem_of_getElem? (i := 134) rfl)
theorem it_X0 : Cond.instantiable RX0 1 ∈ lw_tbl := inT_1 (List.mem_of_getElem? (i := 33) rfl)
theorem it_X1 : Cond.instantiable RX1 3 ∈ lw_tbl := inT_1 (List.mem_of_getElem? (i := 43) rfl)
theorem it_X2 : Cond.instantiable RX2 3 ∈ lw_tbl := inT_1 (List.mem_of_getElem? (i := 141) rfl)
theorem it_X3 : Cond.instantiable RX3 9 ∈ lw_tbl := inT_1 (List.mem_of_getElem? (i := 24) rfl)
theorem it_X4 : Cond.instantiable RX4 7 ∈ lw_tbl := inT_1 (List.mem_of_getElem? (i := 103) rfl)
theorem it_X5 : Cond.instantiable RX5 9 ∈ lw_tbl := inT_1 (List.mem_of_getElem? (i := 16) rfl)
theorem it_X6 : Cond.instantiable RX6 16 ∈ lw_tbl := inT_4 (List.mem_of_getElem? (i := 28) rfl)
theorem GW_tbl {args : Array Value} {s : State} (h : ∀ w ∈ lw_tbl, w.before args s = true) : ∀ w ∈ GW, w.before args s = true := fun w hw => h w (List.mem_filter.mp hw).1
theorem arr_prim {args : Array Value} {s : State} {ty : FieldType} (hn : ∀ C, ty ≠ .object C) (h : (Cond.arrayClass ty).before args s = true) : ∃ cI, ArrOfT s cI ty ∧ va_RA s cI ty := by
  obtain ⟨c, k, comp, h1, h2, h3⟩ := Cond.arrayClass_spec h
  refine ⟨c, fun N z => ⟨(fun k h => by cases h), k, h2, comp, h3⟩, ?_⟩
  cases ty with
  | object C => exact absurd rfl (hn C)
  | _ => exact h1
theorem arr_obj {args : Array Value} {s : State} {C : String} (h : (Cond.arrayOver (.object C)).before args s = true) : ∃ cI, ArrOfT s cI (.object C) ∧ va_RA s cI (.object C) := by
  obtain ⟨comp, c, k, h1, -, h2, h3, h4⟩ := Cond.arrayOver_spec h
  exact ⟨c, fun N z => ⟨(fun k h => by cases h), k, h2, comp, h3⟩, k, comp, h2, h3, h1, h4⟩
theorem start_K {args : Array Value} {s : State} (hts : ∀ w ∈ lw_tbl, w.before args s = true) : ∃ (D : va_G) (cA : Nat → ClassId), va_K D vwCl (tys cA) s := by
  have hg := GW_tbl hts
  obtain ⟨c0, i0, k0⟩ := u_known hg inGX0 (hts _ it_X0)
  obtain ⟨c1, i1, k1⟩ := u_known hg inGX1 (hts _ it_X1)
  obtain ⟨c2, i2, k2⟩ := u_known hg inGX2 (hts _ it_X2)
  obtain ⟨c3, i3, k3⟩ := u_known hg inGX3 (hts _ it_X3)
  obtain ⟨c4, i4, k4⟩ := u_known hg inGX4 (hts _ it_X4)
  obtain ⟨c5, i5, k5⟩ := u_known hg inGX5 (hts _ it_X5)
  obtain ⟨c6, i6, k6⟩ := u_known hg inGX6 (hts _ it_X6)
  obtain ⟨b0, p0⟩ := arr_prim (fun _ h => by cases h) (hts _ ac_int)
  obtain ⟨b1, p1⟩ := arr_prim (fun _ h => by cases h) (hts _ ac_long)
  obtain ⟨b2, p2⟩ := arr_prim (fun _ h => by cases h) (hts _ ac_byte)
  obtain ⟨b3, p3⟩ := arr_obj (hts _ ao_X0)
  obtain ⟨b4, p4⟩ := arr_obj (hts _ ao_X1)
  obtain ⟨b5, p5⟩ := arr_obj (hts _ ao_X2)
  refine ⟨(fun k => [c0, c1, c2, c3, c4, c5, c6].getD k c0, fun k => [i0, i1, i2, i3, i4, i5, i6].getD k i0), fun k => [b0, b1, b2, b3, b4, b5].getD k b0, fun k q hq => ?_, fun k q hq => ?_⟩
  · have hl : k < 7 := (List.getElem?_eq_some_iff.mp hq).1
    rcases t7 hl with rfl | rfl | rfl | rfl | rfl | rfl | rfl <;> cases hq
    · exact k0
    · exact k1
    · exact k2
    · exact k3
    · exact k4
    · exact k5
    · exact k6
  · have hl : k < 6 := (List.getElem?_eq_some_iff.mp hq).1
    rcases (show k = 0 ∨ k = 1 ∨ k = 2 ∨ k = 3 ∨ k = 4 ∨ k = 5 by omega) with rfl | rfl | rfl | rfl | rfl | rfl <;> cases hq
    · exact p0
    · exact p1
    · exact p2
    · exact p3
    · exact p4
    · exact p5
/-- what was there before, for any addresses of the world that are new -/
theorem start_St {args : Array Value} {s : State} (hts : ∀ w ∈ lw_tbl, w.before args s = true) (hgv : (Jvm.Cond.and given_1 narrow_1).before args s = true) : ∃ sp : Nat → Nat, ∀ ad : Nat → Nat, (∀ k, k < 97 → s.heap.size ≤ ad k) → (∀ k, 97 ≤ k → ad k = sp k) → St ad s s.heap := by
  have hs : ∀ c ∈ CF, c.before args s = true := flat_of_before _ hgv
  have hA : ∀ a : Nat, a < s.heap.size → ¬ (fun q : Nat => s.heap.size ≤ q) a := fun a h => Nat.not_le.mpr h
  have hT : ∀ t, ∃ q : Nat, t < 3 → va_Z RX0 (tbn t) "[I" (.ref q) (fun q : Nat => s.heap.size ≤ q) s s.heap ∧ va_T .int q 5 (fun j => .int (tbv t j)) (fun q : Nat => s.heap.size ≤ q) s s.heap := by
    intro t
    by_cases ht : t < 3
    · obtain ⟨q, h1, h2⟩ := va_Tof (tm := tmT t) (ty := .int) (N := 5) (f := fun j => .int (tbv t j)) (by decide) (hs _ (cf_ta t ht)) (va_eqt (hs _ (cf_tl t ht))) (fun j hj => va_eqt (hs _ (cf_te t ht j hj))) hA
      exact ⟨q, fun _ => ⟨va_Zref (hts _ (ls_all t ht)) (hts _ in_x0) h1 hA, h2⟩⟩
    · exact ⟨0, fun h => absurd h ht⟩
  obtain ⟨tb, htb⟩ := Classical.axiomOfChoice hT
  obtain ⟨adK, adV, hS, hE⟩ := vk_Sof (args := args) (s := s) (N := 14) (tm := tmS) (len := stL) (byt := stB) (by decide +kernel) (fun i hi => hs _ (cf_ex i hi)) (fun i hi => hs _ (cf_co i hi)) (fun i hi => hs _ (cf_ar i hi)) (fun i hi => hs _ (cf_le i hi)) (fun i hi j hj => hs _ (cf_el i hi j hj)) (fun i j hi hj hij => (cf_ne i hi j hj hij).imp (hs _) (hs _)) hA
  have hc := va_Zof (hts _ ls_cs) (hts _ in_str) (va_eqi (hs _ cf_cs)) hA
  have hf := va_Zqof (hts _ ls_fm) (hts _ in_pre) (hs _ cf_fm) hA
  refine ⟨fun k => if k < 110 then tb (k - 100) else if k < 130 then adK (k - 110) else adV (k - 130), fun ad h1 h2 => ?_⟩
  have hw : ∀ q, Aw ad q → (fun q : Nat => s.heap.size ≤ q) q := fun q ⟨k, hk, e⟩ => by rw [e]; exact h1 k hk
  have e1 : ∀ t, t < 3 → ad (100 + t) = tb t := fun t ht => by
    rw [h2 _ (by omega)]; dsimp only; rw [if_pos (by omega), show 100 + t - 100 = t by omega]
  have e2 : ∀ i, i < 14 → ad (110 + i) = adK i := fun i hi => by
    rw [h2 _ (by omega)]; dsimp only; rw [if_neg (by omega), if_pos (by omega), show 110 + i - 110 = i by omega]
  have e3 : ∀ i, i < 14 → ad (130 + i) = adV i := fun i hi => by
    rw [h2 _ (by omega)]; dsimp only; rw [if_neg (by omega), if_neg (by omega), show 130 + i - 130 = i by omega]
  refine ⟨fun w hw => va_Nw.of (NW_on w hw) (hts w (NW_tbl w hw)), fun t ht => ?_, ⟨fun i hi => ?_, fun i j hi hj e => ?_⟩, fun i hi => ?_, hc.narrow hw, ?_⟩
  · rw [e1 t ht]
    exact ⟨(htb t ht).1.narrow hw, (htb t ht).2.narrow hw⟩
  · show va_O _ (ad (110 + i)) _ _ _ ∧ va_OF _ _ _ _ (ad (110 + i)) _ _ _ ∧ va_OF _ _ _ (.ref (ad (130 + i))) (ad (110 + i)) _ _ _ ∧ va_T _ (ad (130 + i)) _ _ _ _ _
    rw [e2 i hi, e3 i hi]
    have q := hS.1 i hi
    exact ⟨q.1.narrow hw, q.2.1.narrow hw, q.2.2.1.narrow hw, q.2.2.2.narrow hw⟩
  · have e' : ad (110 + i) = ad (110 + j) := e
    rw [e2 i hi, e2 j hj] at e'
    exact hS.2 i j hi hj e'
  · rw [e2 i hi]
    exact vk_R.of (hts _ (sr_all i hi)) (hE i hi)
  · rcases hf with h | ⟨t, h⟩
    · exact ⟨none, h.narrow hw⟩
    · exact ⟨some t, h.narrow hw⟩
/-- THE FIRST WORLD -/
def u0 : Uw := (fun r k => if k = 3 ∧ (r = 0 ∨ r = 1 ∨ r = 2 ∨ r = 20) then 10 else 0, fun _ _ => 0)
def pmL : List Nat := [1, 2, 3, 4, 6, 8, 10, 12, 14, 5, 7, 9, 11, 13, 15, 16, 17, 18, 19, 20, 21, 22, 23, 24, 25, 26, 27, 29, 31, 33, 35, 37, 28, 30, 32, 34, 36, 38, 39, 40, 41, 42, 43, 44, 45, 46, 49, 50, 51, 52, 54, 56, 58, 60, 62, 53, 55, 57, 59, 61, 63, 64, 65, 66, 67, 68, 69, 70, 71, 0, 47, 48, 72, 78, 80, 82, 84, 79, 81, 83, 85, 73, 74, 75, 76, 77, 86, 87, 88, 89, 90, 91, 92, 93, 94, 95, 96]
def pm (k : Nat) : Nat := pmL.getD k 0
def ad0 (a a2 sp : Nat → Nat) (k : Nat) : Nat := if k < 97 then (if pm k < 86 then a (pm k) else a2 (pm k - 86)) else sp k
theorem pm_inj : ∀ i, i < 97 → ∀ j, j < 97 → pm i = pm j → i = j := by decide +kernel
theorem pm_lt : ∀ i, i < 97 → pm i < 97 := by decide +kernel
theorem at_ia {D : va_G} {cl : List vw_C} {q n : Nat} {cI : ClassId} {f g : Nat → Int32} {H : Heap} (h : va_at D cl (q, .inl (cI, n, .inl f)) H) (hf : ∀ j, j < n → f j = g j) : va_at D cl (q, .inl (cI, n, .inl g)) H := by
  have e : vp_cell cI (n, .inl f) = vp_cell cI (n, .inl g) := by
    rw [vp_cell_i, vp_cell_i]
    unfold arrV
    congr 1
    apply congrArg
    funext j
    show Value.int (f j.val) = Value.int (g j.val)
    rw [hf j.val j.isLt]
  have h' : H[q]? = some (vp_cell cI (n, .inl f)) := h
  rw [e] at h'
  exact h'
theorem at_la {D : va_G} {cl : List vw_C} {q n : Nat} {cI : ClassId} {f g : Nat → Int64} {H : Heap} (h : va_at D cl (q, .inl (cI, n, .inr (.inl f))) H) (hf : ∀ j, j < n → f j = g j) : va_at D cl (q, .inl (cI, n, .inr (.inl g))) H := by
  have e : vp_cell cI (n, .inr (.inl f)) = vp_cell cI (n, .inr (.inl g)) := by
    rw [vp_cell_l, vp_cell_l]
    unfold arrV
    congr 1
    apply congrArg
    funext j
    show Value.long (f j.val) = Value.long (g j.val)
    rw [hf j.val j.isLt]
  have h' : H[q]? = some (vp_cell cI (n, .inr (.inl f))) := h
  rw [e] at h'
  exact h'
theorem at_ra {D : va_G} {cl : List vw_C} {q n : Nat} {cI : ClassId} {f g : Nat → Option Nat} {H : Heap} (h : va_at D cl (q, .inl (cI, n, .inr (.inr (.inr (.inr f))))) H) (hf : ∀ j, j < n → f j = g j) : va_at D cl (q, .inl (cI, n, .inr (.inr (.inr (.inr g))))) H := by
  have e : vp_cell cI (n, .inr (.inr (.inr (.inr f)))) = vp_cell cI (n, .inr (.inr (.inr (.inr g)))) := by
    rw [vp_cell_q, vp_cell_q]
    unfold arrV
    congr 1
    apply congrArg
    funext j
    show va_rf (f j.val) = va_rf (g j.val)
    rw [hf j.val j.isLt]
  have h' : H[q]? = some (vp_cell cI (n, .inr (.inr (.inr (.inr f))))) := h
  rw [e] at h'
  exact h'
theorem u0z {r k : Nat} (h : ¬ (k = 3 ∧ (r = 0 ∨ r = 1 ∨ r = 2 ∨ r = 20))) : u0.1 r k = 0 := if_neg h
theorem u0s (j : Nat) : u0.1 20 (0 + j) = upd (fun _ => 0) 3 10 j := by
  unfold u0 upd
  simp
section First
variable {D : va_G} {cA : Nat → ClassId} {a a2 sp : Nat → Nat} {H : Heap}
set_option maxRecDepth 20000 in
theorem fw_0 (hP : va_P D vwCl (FX5 cA a) H) : va_at D vwCl (ad0 a a2 sp 0, cellE (ad0 a a2 sp) cA u0 0) H := by
  exact hP 1 _ rfl
set_option maxRecDepth 20000 in
theorem fw_1 (hP : va_P D vwCl (FX5 cA a) H) : va_at D vwCl (ad0 a a2 sp 1, cellE (ad0 a a2 sp) cA u0 1) H := by
  refine (at_ra (hP 2 _ rfl) (fun j hj => ?_) : va_at D vwCl (ad0 a a2 sp 1, .inl (cA 3, 6, .inr (.inr (.inr (.inr (fun i => some (ad0 a a2 sp (1 + 2 + i)))))))) H)
  rcases (show j = 0 ∨ j = 1 ∨ j = 2 ∨ j = 3 ∨ j = 4 ∨ j = 5 by omega) with rfl | rfl | rfl | rfl | rfl | rfl <;> rfl
set_option maxRecDepth 20000 in
theorem fw_2 (hP : va_P D vwCl (FX5 cA a) H) : va_at D vwCl (ad0 a a2 sp 2, cellE (ad0 a a2 sp) cA u0 2) H := by
  refine (at_ra (hP 3 _ rfl) (fun j hj => ?_) : va_at D vwCl (ad0 a a2 sp 2, .inl (cA 4, 8, .inr (.inr (.inr (.inr (fun i => some (ad0 a a2 sp (2 + 13 + i)))))))) H)
  rcases (show j = 0 ∨ j = 1 ∨ j = 2 ∨ j = 3 ∨ j = 4 ∨ j = 5 ∨ j = 6 ∨ j = 7 by omega) with rfl | rfl | rfl | rfl | rfl | rfl | rfl | rfl <;> rfl
set_option maxRecDepth 20000 in
theorem fw_3 (hP : va_P D vwCl (FX5 cA a) H) : va_at D vwCl (ad0 a a2 sp 3, cellE (ad0 a a2 sp) cA u0 3) H := by
  exact hP 4 _ rfl
set_option maxRecDepth 20000 in
theorem fw_4 (hP : va_P D vwCl (FX5 cA a) H) : va_at D vwCl (ad0 a a2 sp 4, cellE (ad0 a a2 sp) cA u0 4) H := by
  exact hP 6 _ rfl
set_option maxRecDepth 20000 in
theorem fw_5 (hP : va_P D vwCl (FX5 cA a) H) : va_at D vwCl (ad0 a a2 sp 5, cellE (ad0 a a2 sp) cA u0 5) H := by
  exact hP 8 _ rfl
set_option maxRecDepth 20000 in
theorem fw_6 (hP : va_P D vwCl (FX5 cA a) H) : va_at D vwCl (ad0 a a2 sp 6, cellE (ad0 a a2 sp) cA u0 6) H := by
  exact hP 10 _ rfl
set_option maxRecDepth 20000 in
theorem fw_7 (hP : va_P D vwCl (FX5 cA a) H) : va_at D vwCl (ad0 a a2 sp 7, cellE (ad0 a a2 sp) cA u0 7) H := by
  exact hP 12 _ rfl
set_option maxRecDepth 20000 in
theorem fw_8 (hP : va_P D vwCl (FX5 cA a) H) : va_at D vwCl (ad0 a a2 sp 8, cellE (ad0 a a2 sp) cA u0 8) H := by
  exact hP 14 _ rfl
set_option maxRecDepth 20000 in
theorem fw_9 (hP : va_P D vwCl (FX5 cA a) H) : va_at D vwCl (ad0 a a2 sp 9, cellE (ad0 a a2 sp) cA u0 9) H := by
  refine (at_ia (f := fun _ => 0) (hP 5 _ rfl) (fun j hj => ?_) : va_at D vwCl (ad0 a a2 sp 9, .inl (cA 0, 5, .inl (mk1 5 (gk u0 9)))) H)
  rw [mk1, if_pos hj]
  exact (u0z (r := 0) (k := 7 + j) (by omega)).symm
set_option maxRecDepth 20000 in
theorem fw_10 (hP : va_P D vwCl (FX5 cA a) H) : va_at D vwCl (ad0 a a2 sp 10, cellE (ad0 a a2 sp) cA u0 10) H := by
  refine (at_ia (f := fun _ => 0) (hP 7 _ rfl) (fun j hj => ?_) : va_at D vwCl (ad0 a a2 sp 10, .inl (cA 0, 5, .inl (mk1 5 (gk u0 10)))) H)
  rw [mk1, if_pos hj]
  exact (u0z (r := 0) (k := 12 + j) (by omega)).symm
set_option maxRecDepth 20000 in
theorem fw_11 (hP : va_P D vwCl (FX5 cA a) H) : va_at D vwCl (ad0 a a2 sp 11, cellE (ad0 a a2 sp) cA u0 11) H := by
  refine (at_ia (f := fun _ => 0) (hP 9 _ rfl) (fun j hj => ?_) : va_at D vwCl (ad0 a a2 sp 11, .inl (cA 0, 5, .inl (mk1 5 (gk u0 11)))) H)
  rw [mk1, if_pos hj]
  exact (u0z (r := 0) (k := 17 + j) (by omega)).symm
set_option maxRecDepth 20000 in
theorem fw_12 (hP : va_P D vwCl (FX5 cA a) H) : va_at D vwCl (ad0 a a2 sp 12, cellE (ad0 a a2 sp) cA u0 12) H := by
  refine (at_ia (f := fun _ => 0) (hP 11 _ rfl) (fun j hj => ?_) : va_at D vwCl (ad0 a a2 sp 12, .inl (cA 0, 5, .inl (mk1 5 (gk u0 12)))) H)
  rw [mk1, if_pos hj]
  exact (u0z (r := 0) (k := 22 + j) (by omega)).symm
set_option maxRecDepth 20000 in
theorem fw_13 (hP : va_P D vwCl (FX5 cA a) H) : va_at D vwCl (ad0 a a2 sp 13, cellE (ad0 a a2 sp) cA u0 13) H := by
  refine (at_ia (f := fun _ => 0) (hP 13 _ rfl) (fun j hj => ?_) : va_at D vwCl (ad0 a a2 sp 13, .inl (cA 0, 5, .inl (mk1 5 (gk u0 13)))) H)
  rw [mk1, if_pos hj]
  exact (u0z (r := 0) (k := 27 + j) (by omega)).symm
set_option maxRecDepth 20000 in
theorem fw_14 (hP : va_P D vwCl (FX5 cA a) H) : va_at D vwCl (ad0 a a2 sp 14, cellE (ad0 a a2 sp) cA u0 14) H := by
  refine (at_ia (f := fun _ => 0) (hP 15 _ rfl) (fun j hj => ?_) : va_at D vwCl (ad0 a a2 sp 14, .inl (cA 0, 5, .inl (mk1 5 (gk u0 14)))) H)
  rw [mk1, if_pos hj]
  exact (u0z (r := 0) (k := 32 + j) (by omega)).symm
set_option maxRecDepth 20000 in
theorem fw_15 (hP : va_P D vwCl (FX5 cA a) H) : va_at D vwCl (ad0 a a2 sp 15, cellE (ad0 a a2 sp) cA u0 15) H := by
  exact hP 16 _ rfl
set_option maxRecDepth 20000 in
theorem fw_16 (hP : va_P D vwCl (FX5 cA a) H) : va_at D vwCl (ad0 a a2 sp 16, cellE (ad0 a a2 sp) cA u0 16) H := by
  exact hP 17 _ rfl
set_option maxRecDepth 20000 in
theorem fw_17 (hP : va_P D vwCl (FX5 cA a) H) : va_at D vwCl (ad0 a a2 sp 17, cellE (ad0 a a2 sp) cA u0 17) H := by
  exact hP 18 _ rfl
set_option maxRecDepth 20000 in
theorem fw_18 (hP : va_P D vwCl (FX5 cA a) H) : va_at D vwCl (ad0 a a2 sp 18, cellE (ad0 a a2 sp) cA u0 18) H := by
  exact hP 19 _ rfl
set_option maxRecDepth 20000 in
theorem fw_19 (hP : va_P D vwCl (FX5 cA a) H) : va_at D vwCl (ad0 a a2 sp 19, cellE (ad0 a a2 sp) cA u0 19) H := by
  exact hP 20 _ rfl
set_option maxRecDepth 20000 in
theorem fw_20 (hP : va_P D vwCl (FX5 cA a) H) : va_at D vwCl (ad0 a a2 sp 20, cellE (ad0 a a2 sp) cA u0 20) H := by
  exact hP 21 _ rfl
set_option maxRecDepth 20000 in
theorem fw_21 (hP : va_P D vwCl (FX5 cA a) H) : va_at D vwCl (ad0 a a2 sp 21, cellE (ad0 a a2 sp) cA u0 21) H := by
  exact hP 22 _ rfl
set_option maxRecDepth 20000 in
theorem fw_22 (hP : va_P D vwCl (FX5 cA a) H) : va_at D vwCl (ad0 a a2 sp 22, cellE (ad0 a a2 sp) cA u0 22) H := by
  exact hP 23 _ rfl
set_option maxRecDepth 20000 in
theorem fw_23 (hP : va_P D vwCl (FX5 cA a) H) : va_at D vwCl (ad0 a a2 sp 23, cellE (ad0 a a2 sp) cA u0 23) H := by
  exact hP 24 _ rfl
set_option maxRecDepth 20000 in
theorem fw_24 (hP : va_P D vwCl (FX5 cA a) H) : va_at D vwCl (ad0 a a2 sp 24, cellE (ad0 a a2 sp) cA u0 24) H := by
  refine (at_ra (hP 25 _ rfl) (fun j hj => ?_) : va_at D vwCl (ad0 a a2 sp 24, .inl (cA 3, 6, .inr (.inr (.inr (.inr (fun i => some (ad0 a a2 sp (24 + 2 + i)))))))) H)
  rcases (show j = 0 ∨ j = 1 ∨ j = 2 ∨ j = 3 ∨ j = 4 ∨ j = 5 by omega) with rfl | rfl | rfl | rfl | rfl | rfl <;> rfl
set_option maxRecDepth 20000 in
theorem fw_25 (hP : va_P D vwCl (FX5 cA a) H) : va_at D vwCl (ad0 a a2 sp 25, cellE (ad0 a a2 sp) cA u0 25) H := by
  refine (at_ra (hP 26 _ rfl) (fun j hj => ?_) : va_at D vwCl (ad0 a a2 sp 25, .inl (cA 4, 8, .inr (.inr (.inr (.inr (fun i => some (ad0 a a2 sp (25 + 13 + i)))))))) H)
  rcases (show j = 0 ∨ j = 1 ∨ j = 2 ∨ j = 3 ∨ j = 4 ∨ j = 5 ∨ j = 6 ∨ j = 7 by omega) with rfl | rfl | rfl | rfl | rfl | rfl | rfl | rfl <;> rfl
set_option maxRecDepth 20000 in
theorem fw_26 (hP : va_P D vwCl (FX5 cA a) H) : va_at D vwCl (ad0 a a2 sp 26, cellE (ad0 a a2 sp) cA u0 26) H := by
  exact hP 27 _ rfl
set_option maxRecDepth 20000 in
theorem fw_27 (hP : va_P D vwCl (FX5 cA a) H) : va_at D vwCl (ad0 a a2 sp 27, cellE (ad0 a a2 sp) cA u0 27) H := by
  exact hP 29 _ rfl
set_option maxRecDepth 20000 in
theorem fw_28 (hP : va_P D vwCl (FX5 cA a) H) : va_at D vwCl (ad0 a a2 sp 28, cellE (ad0 a a2 sp) cA u0 28) H := by
  exact hP 31 _ rfl
set_option maxRecDepth 20000 in
theorem fw_29 (hP : va_P D vwCl (FX5 cA a) H) : va_at D vwCl (ad0 a a2 sp 29, cellE (ad0 a a2 sp) cA u0 29) H := by
  exact hP 33 _ rfl
set_option maxRecDepth 20000 in
theorem fw_30 (hP : va_P D vwCl (FX5 cA a) H) : va_at D vwCl (ad0 a a2 sp 30, cellE (ad0 a a2 sp) cA u0 30) H := by
  exact hP 35 _ rfl
set_option maxRecDepth 20000 in
theorem fw_31 (hP : va_P D vwCl (FX5 cA a) H) : va_at D vwCl (ad0 a a2 sp 31, cellE (ad0 a a2 sp) cA u0 31) H := by
  exact hP 37 _ rfl
set_option maxRecDepth 20000 in
theorem fw_32 (hP : va_P D vwCl (FX5 cA a) H) : va_at D vwCl (ad0 a a2 sp 32, cellE (ad0 a a2 sp) cA u0 32) H := by
  refine (at_ia (f := fun _ => 0) (hP 28 _ rfl) (fun j hj => ?_) : va_at D vwCl (ad0 a a2 sp 32, .inl (cA 0, 5, .inl (mk1 5 (gk u0 32)))) H)
  rw [mk1, if_pos hj]
  exact (u0z (r := 1) (k := 7 + j) (by omega)).symm
set_option maxRecDepth 20000 in
theorem fw_33 (hP : va_P D vwCl (FX5 cA a) H) : va_at D vwCl (ad0 a a2 sp 33, cellE (ad0 a a2 sp) cA u0 33) H := by
  refine (at_ia (f := fun _ => 0) (hP 30 _ rfl) (fun j hj => ?_) : va_at D vwCl (ad0 a a2 sp 33, .inl (cA 0, 5, .inl (mk1 5 (gk u0 33)))) H)
  rw [mk1, if_pos hj]
  exact (u0z (r := 1) (k := 12 + j) (by omega)).symm
set_option maxRecDepth 20000 in
theorem fw_34 (hP : va_P D vwCl (FX5 cA a) H) : va_at D vwCl (ad0 a a2 sp 34, cellE (ad0 a a2 sp) cA u0 34) H := by
  refine (at_ia (f := fun _ => 0) (hP 32 _ rfl) (fun j hj => ?_) : va_at D vwCl (ad0 a a2 sp 34, .inl (cA 0, 5, .inl (mk1 5 (gk u0 34)))) H)
  rw [mk1, if_pos hj]
  exact (u0z (r := 1) (k := 17 + j) (by omega)).symm
set_option maxRecDepth 20000 in
theorem fw_35 (hP : va_P D vwCl (FX5 cA a) H) : va_at D vwCl (ad0 a a2 sp 35, cellE (ad0 a a2 sp) cA u0 35) H := by
  refine (at_ia (f := fun _ => 0) (hP 34 _ rfl) (fun j hj => ?_) : va_at D vwCl (ad0 a a2 sp 35, .inl (cA 0, 5, .inl (mk1 5 (gk u0 35)))) H)
  rw [mk1, if_pos hj]
  exact (u0z (r := 1) (k := 22 + j) (by omega)).symm
set_option maxRecDepth 20000 in
theorem fw_36 (hP : va_P D vwCl (FX5 cA a) H) : va_at D vwCl (ad0 a a2 sp 36, cellE (ad0 a a2 sp) cA u0 36) H := by
  refine (at_ia (f := fun _ => 0) (hP 36 _ rfl) (fun j hj => ?_) : va_at D vwCl (ad0 a a2 sp 36, .inl (cA 0, 5, .inl (mk1 5 (gk u0 36)))) H)
  rw [mk1, if_pos hj]
  exact (u0z (r := 1) (k := 27 + j) (by omega)).symm
set_option maxRecDepth 20000 in
theorem fw_37 (hP : va_P D vwCl (FX5 cA a) H) : va_at D vwCl (ad0 a a2 sp 37, cellE (ad0 a a2 sp) cA u0 37) H := by
  refine (at_ia (f := fun _ => 0) (hP 38 _ rfl) (fun j hj => ?_) : va_at D vwCl (ad0 a a2 sp 37, .inl (cA 0, 5, .inl (mk1 5 (gk u0 37)))) H)
  rw [mk1, if_pos hj]
  exact (u0z (r := 1) (k := 32 + j) (by omega)).symm
set_option maxRecDepth 20000 in
theorem fw_38 (hP : va_P D vwCl (FX5 cA a) H) : va_at D vwCl (ad0 a a2 sp 38, cellE (ad0 a a2 sp) cA u0 38) H := by
  exact hP 39 _ rfl
set_option maxRecDepth 20000 in
theorem fw_39 (hP : va_P D vwCl (FX5 cA a) H) : va_at D vwCl (ad0 a a2 sp 39, cellE (ad0 a a2 sp) cA u0 39) H := by
  exact hP 40 _ rfl
set_option maxRecDepth 20000 in
theorem fw_40 (hP : va_P D vwCl (FX5 cA a) H) : va_at D vwCl (ad0 a a2 sp 40, cellE (ad0 a a2 sp) cA u0 40) H := by
  exact hP 41 _ rfl
set_option maxRecDepth 20000 in
theorem fw_41 (hP : va_P D vwCl (FX5 cA a) H) : va_at D vwCl (ad0 a a2 sp 41, cellE (ad0 a a2 sp) cA u0 41) H := by
  exact hP 42 _ rfl
set_option maxRecDepth 20000 in
theorem fw_42 (hP : va_P D vwCl (FX5 cA a) H) : va_at D vwCl (ad0 a a2 sp 42, cellE (ad0 a a2 sp) cA u0 42) H := by
  exact hP 43 _ rfl
set_option maxRecDepth 20000 in
theorem fw_43 (hP : va_P D vwCl (FX5 cA a) H) : va_at D vwCl (ad0 a a2 sp 43, cellE (ad0 a a2 sp) cA u0 43) H := by
  exact hP 44 _ rfl
set_option maxRecDepth 20000 in
theorem fw_44 (hP : va_P D vwCl (FX5 cA a) H) : va_at D vwCl (ad0 a a2 sp 44, cellE (ad0 a a2 sp) cA u0 44) H := by
  exact hP 45 _ rfl
set_option maxRecDepth 20000 in
theorem fw_45 (hP : va_P D vwCl (FX5 cA a) H) : va_at D vwCl (ad0 a a2 sp 45, cellE (ad0 a a2 sp) cA u0 45) H := by
  exact hP 46 _ rfl
set_option maxRecDepth 20000 in
theorem fw_46 (hP : va_P D vwCl (FX5 cA a) H) : va_at D vwCl (ad0 a a2 sp 46, cellE (ad0 a a2 sp) cA u0 46) H := by
  exact hP 49 _ rfl
set_option maxRecDepth 20000 in
theorem fw_47 (hP : va_P D vwCl (FX5 cA a) H) : va_at D vwCl (ad0 a a2 sp 47, cellE (ad0 a a2 sp) cA u0 47) H := by
  refine (at_ra (hP 50 _ rfl) (fun j hj => ?_) : va_at D vwCl (ad0 a a2 sp 47, .inl (cA 3, 6, .inr (.inr (.inr (.inr (fun i => some (ad0 a a2 sp (47 + 2 + i)))))))) H)
  rcases (show j = 0 ∨ j = 1 ∨ j = 2 ∨ j = 3 ∨ j = 4 ∨ j = 5 by omega) with rfl | rfl | rfl | rfl | rfl | rfl <;> rfl
set_option maxRecDepth 20000 in
theorem fw_48 (hP : va_P D vwCl (FX5 cA a) H) : va_at D vwCl (ad0 a a2 sp 48, cellE (ad0 a a2 sp) cA u0 48) H := by
  refine (at_ra (hP 51 _ rfl) (fun j hj => ?_) : va_at D vwCl (ad0 a a2 sp 48, .inl (cA 4, 8, .inr (.inr (.inr (.inr (fun i => some (ad0 a a2 sp (48 + 13 + i)))))))) H)
  rcases (show j = 0 ∨ j = 1 ∨ j = 2 ∨ j = 3 ∨ j = 4 ∨ j = 5 ∨ j = 6 ∨ j = 7 by omega) with rfl | rfl | rfl | rfl | rfl | rfl | rfl | rfl <;> rfl
set_option maxRecDepth 20000 in
theorem fw_49 (hP : va_P D vwCl (FX5 cA a) H) : va_at D vwCl (ad0 a a2 sp 49, cellE (ad0 a a2 sp) cA u0 49) H := by
  exact hP 52 _ rfl
set_option maxRecDepth 20000 in
theorem fw_50 (hP : va_P D vwCl (FX5 cA a) H) : va_at D vwCl (ad0 a a2 sp 50, cellE (ad0 a a2 sp) cA u0 50) H := by
  exact hP 54 _ rfl
set_option maxRecDepth 20000 in
theorem fw_51 (hP : va_P D vwCl (FX5 cA a) H) : va_at D vwCl (ad0 a a2 sp 51, cellE (ad0 a a2 sp) cA u0 51) H := by
  exact hP 56 _ rfl
set_option maxRecDepth 20000 in
theorem fw_52 (hP : va_P D vwCl (FX5 cA a) H) : va_at D vwCl (ad0 a a2 sp 52, cellE (ad0 a a2 sp) cA u0 52) H := by
  exact hP 58 _ rfl
set_option maxRecDepth 20000 in
theorem fw_53 (hP : va_P D vwCl (FX5 cA a) H) : va_at D vwCl (ad0 a a2 sp 53, cellE (ad0 a a2 sp) cA u0 53) H := by
  exact hP 60 _ rfl
set_option maxRecDepth 20000 in
theorem fw_54 (hP : va_P D vwCl (FX5 cA a) H) : va_at D vwCl (ad0 a a2 sp 54, cellE (ad0 a a2 sp) cA u0 54) H := by
  exact hP 62 _ rfl
set_option maxRecDepth 20000 in
theorem fw_55 (hP : va_P D vwCl (FX5 cA a) H) : va_at D vwCl (ad0 a a2 sp 55, cellE (ad0 a a2 sp) cA u0 55) H := by
  refine (at_ia (f := fun _ => 0) (hP 53 _ rfl) (fun j hj => ?_) : va_at D vwCl (ad0 a a2 sp 55, .inl (cA 0, 5, .inl (mk1 5 (gk u0 55)))) H)
  rw [mk1, if_pos hj]
  exact (u0z (r := 2) (k := 7 + j) (by omega)).symm
set_option maxRecDepth 20000 in
theorem fw_56 (hP : va_P D vwCl (FX5 cA a) H) : va_at D vwCl (ad0 a a2 sp 56, cellE (ad0 a a2 sp) cA u0 56) H := by
  refine (at_ia (f := fun _ => 0) (hP 55 _ rfl) (fun j hj => ?_) : va_at D vwCl (ad0 a a2 sp 56, .inl (cA 0, 5, .inl (mk1 5 (gk u0 56)))) H)
  rw [mk1, if_pos hj]
  exact (u0z (r := 2) (k := 12 + j) (by omega)).symm
set_option maxRecDepth 20000 in
theorem fw_57 (hP : va_P D vwCl (FX5 cA a) H) : va_at D vwCl (ad0 a a2 sp 57, cellE (ad0 a a2 sp) cA u0 57) H := by
  refine (at_ia (f := fun _ => 0) (hP 57 _ rfl) (fun j hj => ?_) : va_at D vwCl (ad0 a a2 sp 57, .inl (cA 0, 5, .inl (mk1 5 (gk u0 57)))) H)
  rw [mk1, if_pos hj]
  exact (u0z (r := 2) (k := 17 + j) (by omega)).symm
set_option maxRecDepth 20000 in
theorem fw_58 (hP : va_P D vwCl (FX5 cA a) H) : va_at D vwCl (ad0 a a2 sp 58, cellE (ad0 a a2 sp) cA u0 58) H := by
  refine (at_ia (f := fun _ => 0) (hP 59 _ rfl) (fun j hj => ?_) : va_at D vwCl (ad0 a a2 sp 58, .inl (cA 0, 5, .inl (mk1 5 (gk u0 58)))) H)
  rw [mk1, if_pos hj]
  exact (u0z (r := 2) (k := 22 + j) (by omega)).symm
set_option maxRecDepth 20000 in
theorem fw_59 (hP : va_P D vwCl (FX5 cA a) H) : va_at D vwCl (ad0 a a2 sp 59, cellE (ad0 a a2 sp) cA u0 59) H := by
  refine (at_ia (f := fun _ => 0) (hP 61 _ rfl) (fun j hj => ?_) : va_at D vwCl (ad0 a a2 sp 59, .inl (cA 0, 5, .inl (mk1 5 (gk u0 59)))) H)
  rw [mk1, if_pos hj]
  exact (u0z (r := 2) (k := 27 + j) (by omega)).symm
set_option maxRecDepth 20000 in
theorem fw_60 (hP : va_P D vwCl (FX5 cA a) H) : va_at D vwCl (ad0 a a2 sp 60, cellE (ad0 a a2 sp) cA u0 60) H := by
  refine (at_ia (f := fun _ => 0) (hP 63 _ rfl) (fun j hj => ?_) : va_at D vwCl (ad0 a a2 sp 60, .inl (cA 0, 5, .inl (mk1 5 (gk u0 60)))) H)
  rw [mk1, if_pos hj]
  exact (u0z (r := 2) (k := 32 + j) (by omega)).symm
set_option maxRecDepth 20000 in
theorem fw_61 (hP : va_P D vwCl (FX5 cA a) H) : va_at D vwCl (ad0 a a2 sp 61, cellE (ad0 a a2 sp) cA u0 61) H := by
  exact hP 64 _ rfl
set_option maxRecDepth 20000 in
theorem fw_62 (hP : va_P D vwCl (FX5 cA a) H) : va_at D vwCl (ad0 a a2 sp 62, cellE (ad0 a a2 sp) cA u0 62) H := by
  exact hP 65 _ rfl
set_option maxRecDepth 20000 in
theorem fw_63 (hP : va_P D vwCl (FX5 cA a) H) : va_at D vwCl (ad0 a a2 sp 63, cellE (ad0 a a2 sp) cA u0 63) H := by
  exact hP 66 _ rfl
set_option maxRecDepth 20000 in
theorem fw_64 (hP : va_P D vwCl (FX5 cA a) H) : va_at D vwCl (ad0 a a2 sp 64, cellE (ad0 a a2 sp) cA u0 64) H := by
  exact hP 67 _ rfl
set_option maxRecDepth 20000 in
theorem fw_65 (hP : va_P D vwCl (FX5 cA a) H) : va_at D vwCl (ad0 a a2 sp 65, cellE (ad0 a a2 sp) cA u0 65) H := by
  exact hP 68 _ rfl
set_option maxRecDepth 20000 in
theorem fw_66 (hP : va_P D vwCl (FX5 cA a) H) : va_at D vwCl (ad0 a a2 sp 66, cellE (ad0 a a2 sp) cA u0 66) H := by
  exact hP 69 _ rfl
set_option maxRecDepth 20000 in
theorem fw_67 (hP : va_P D vwCl (FX5 cA a) H) : va_at D vwCl (ad0 a a2 sp 67, cellE (ad0 a a2 sp) cA u0 67) H := by
  exact hP 70 _ rfl
set_option maxRecDepth 20000 in
theorem fw_68 (hP : va_P D vwCl (FX5 cA a) H) : va_at D vwCl (ad0 a a2 sp 68, cellE (ad0 a a2 sp) cA u0 68) H := by
  exact hP 71 _ rfl
set_option maxRecDepth 20000 in
theorem fw_69 (hP : va_P D vwCl (FX5 cA a) H) : va_at D vwCl (ad0 a a2 sp 69, cellE (ad0 a a2 sp) cA u0 69) H := by
  exact hP 0 _ rfl
set_option maxRecDepth 20000 in
theorem fw_70 (hP : va_P D vwCl (FX5 cA a) H) : va_at D vwCl (ad0 a a2 sp 70, cellE (ad0 a a2 sp) cA u0 70) H := by
  exact hP 47 _ rfl
set_option maxRecDepth 20000 in
theorem fw_71 (hP : va_P D vwCl (FX5 cA a) H) : va_at D vwCl (ad0 a a2 sp 71, cellE (ad0 a a2 sp) cA u0 71) H := by
  refine (at_ia (f := fun _ => 0) (hP 48 _ rfl) (fun j hj => ?_) : va_at D vwCl (ad0 a a2 sp 71, .inl (cA 2, 120, .inl (mk1 120 (gk u0 71)))) H)
  rw [mk1, if_pos hj]
  exact (u0z (r := 8) (k := 0 + j) (by omega)).symm
set_option maxRecDepth 20000 in
theorem fw_72 (hP : va_P D vwCl (FX5 cA a) H) : va_at D vwCl (ad0 a a2 sp 72, cellE (ad0 a a2 sp) cA u0 72) H := by
  refine (at_ra (hP 72 _ rfl) (fun j hj => ?_) : va_at D vwCl (ad0 a a2 sp 72, .inl (cA 5, 4, .inr (.inr (.inr (.inr (fun i => some (ad0 a a2 sp (73 + i)))))))) H)
  rcases (show j = 0 ∨ j = 1 ∨ j = 2 ∨ j = 3 by omega) with rfl | rfl | rfl | rfl <;> rfl
set_option maxRecDepth 20000 in
theorem fw_73 (hP : va_P D vwCl (FX5 cA a) H) : va_at D vwCl (ad0 a a2 sp 73, cellE (ad0 a a2 sp) cA u0 73) H := by
  exact hP 78 _ rfl
set_option maxRecDepth 20000 in
theorem fw_74 (hP : va_P D vwCl (FX5 cA a) H) : va_at D vwCl (ad0 a a2 sp 74, cellE (ad0 a a2 sp) cA u0 74) H := by
  exact hP 80 _ rfl
set_option maxRecDepth 20000 in
theorem fw_75 (hP : va_P D vwCl (FX5 cA a) H) : va_at D vwCl (ad0 a a2 sp 75, cellE (ad0 a a2 sp) cA u0 75) H := by
  exact hP 82 _ rfl
set_option maxRecDepth 20000 in
theorem fw_76 (hP : va_P D vwCl (FX5 cA a) H) : va_at D vwCl (ad0 a a2 sp 76, cellE (ad0 a a2 sp) cA u0 76) H := by
  exact hP 84 _ rfl
set_option maxRecDepth 20000 in
theorem fw_77 (hP : va_P D vwCl (FX5 cA a) H) : va_at D vwCl (ad0 a a2 sp 77, cellE (ad0 a a2 sp) cA u0 77) H := by
  exact (at_la (f := fun _ => 0) (hP 79 _ rfl) (fun j hj => by rw [mk2, if_pos hj]; rfl) : va_at D vwCl (ad0 a a2 sp 77, .inl (cA 1, 40, .inr (.inl (mk2 40 (hk u0 77))))) H)
set_option maxRecDepth 20000 in
theorem fw_78 (hP : va_P D vwCl (FX5 cA a) H) : va_at D vwCl (ad0 a a2 sp 78, cellE (ad0 a a2 sp) cA u0 78) H := by
  exact (at_la (f := fun _ => 0) (hP 81 _ rfl) (fun j hj => by rw [mk2, if_pos hj]; rfl) : va_at D vwCl (ad0 a a2 sp 78, .inl (cA 1, 40, .inr (.inl (mk2 40 (hk u0 78))))) H)
set_option maxRecDepth 20000 in
theorem fw_79 (hP : va_P D vwCl (FX5 cA a) H) : va_at D vwCl (ad0 a a2 sp 79, cellE (ad0 a a2 sp) cA u0 79) H := by
  exact (at_la (f := fun _ => 0) (hP 83 _ rfl) (fun j hj => by rw [mk2, if_pos hj]; rfl) : va_at D vwCl (ad0 a a2 sp 79, .inl (cA 1, 40, .inr (.inl (mk2 40 (hk u0 79))))) H)
set_option maxRecDepth 20000 in
theorem fw_80 (hP : va_P D vwCl (FX5 cA a) H) : va_at D vwCl (ad0 a a2 sp 80, cellE (ad0 a a2 sp) cA u0 80) H := by
  exact (at_la (f := fun _ => 0) (hP 85 _ rfl) (fun j hj => by rw [mk2, if_pos hj]; rfl) : va_at D vwCl (ad0 a a2 sp 80, .inl (cA 1, 40, .inr (.inl (mk2 40 (hk u0 80))))) H)
set_option maxRecDepth 20000 in
theorem fw_81 (hP : va_P D vwCl (FX5 cA a) H) : va_at D vwCl (ad0 a a2 sp 81, cellE (ad0 a a2 sp) cA u0 81) H := by
  refine (at_ia (f := fun _ => 0) (hP 73 _ rfl) (fun j hj => ?_) : va_at D vwCl (ad0 a a2 sp 81, .inl (cA 0, 7, .inl (mk1 7 (gk u0 81)))) H)
  rw [mk1, if_pos hj]
  exact (u0z (r := 3) (k := 0 + j) (by omega)).symm
set_option maxRecDepth 20000 in
theorem fw_82 (hP : va_P D vwCl (FX5 cA a) H) : va_at D vwCl (ad0 a a2 sp 82, cellE (ad0 a a2 sp) cA u0 82) H := by
  refine (at_ia (f := fun _ => 0) (hP 74 _ rfl) (fun j hj => ?_) : va_at D vwCl (ad0 a a2 sp 82, .inl (cA 0, 400, .inl (mk1 400 (gk u0 82)))) H)
  rw [mk1, if_pos hj]
  exact (u0z (r := 4) (k := 0 + j) (by omega)).symm
set_option maxRecDepth 20000 in
theorem fw_83 (hP : va_P D vwCl (FX5 cA a) H) : va_at D vwCl (ad0 a a2 sp 83, cellE (ad0 a a2 sp) cA u0 83) H := by
  exact hP 75 _ rfl
set_option maxRecDepth 20000 in
theorem fw_84 (hP : va_P D vwCl (FX5 cA a) H) : va_at D vwCl (ad0 a a2 sp 84, cellE (ad0 a a2 sp) cA u0 84) H := by
  exact hP 76 _ rfl
set_option maxRecDepth 20000 in
theorem fw_85 (hP : va_P D vwCl (FX5 cA a) H) : va_at D vwCl (ad0 a a2 sp 85, cellE (ad0 a a2 sp) cA u0 85) H := by
  refine (at_ia (f := fun _ => 0) (hP 77 _ rfl) (fun j hj => ?_) : va_at D vwCl (ad0 a a2 sp 85, .inl (cA 0, 5, .inl (mk1 5 (gk u0 85)))) H)
  rw [mk1, if_pos hj]
  exact (u0z (r := 6) (k := 0 + j) (by omega)).symm
set_option maxRecDepth 20000 in
theorem fw_86 (hP : va_P D vwCl (FX6 cA a2) H) : va_at D vwCl (ad0 a a2 sp 86, cellE (ad0 a a2 sp) cA u0 86) H := by
  exact hP 0 _ rfl
set_option maxRecDepth 20000 in
theorem fw_87 (hP : va_P D vwCl (FX6 cA a2) H) : va_at D vwCl (ad0 a a2 sp 87, cellE (ad0 a a2 sp) cA u0 87) H := by
  refine (at_ia (f := upd (fun _ => 0) 3 10) (hP 1 _ rfl) (fun j hj => ?_) : va_at D vwCl (ad0 a a2 sp 87, .inl (cA 0, 61, .inl (mk1 61 (gk u0 87)))) H)
  rw [mk1, if_pos hj]
  exact (u0s j).symm
set_option maxRecDepth 20000 in
theorem fw_88 (hP : va_P D vwCl (FX6 cA a2) H) : va_at D vwCl (ad0 a a2 sp 88, cellE (ad0 a a2 sp) cA u0 88) H := by
  refine (at_ia (f := fun _ => 0) (hP 2 _ rfl) (fun j hj => ?_) : va_at D vwCl (ad0 a a2 sp 88, .inl (cA 0, 61, .inl (mk1 61 (gk u0 88)))) H)
  rw [mk1, if_pos hj]
  exact (u0z (r := 21) (k := 0 + j) (by omega)).symm
set_option maxRecDepth 20000 in
theorem fw_89 (hP : va_P D vwCl (FX6 cA a2) H) : va_at D vwCl (ad0 a a2 sp 89, cellE (ad0 a a2 sp) cA u0 89) H := by
  refine (at_ia (f := fun _ => 0) (hP 3 _ rfl) (fun j hj => ?_) : va_at D vwCl (ad0 a a2 sp 89, .inl (cA 0, 61, .inl (mk1 61 (gk u0 89)))) H)
  rw [mk1, if_pos hj]
  exact (u0z (r := 22) (k := 0 + j) (by omega)).symm
set_option maxRecDepth 20000 in
theorem fw_90 (hP : va_P D vwCl (FX6 cA a2) H) : va_at D vwCl (ad0 a a2 sp 90, cellE (ad0 a a2 sp) cA u0 90) H := by
  refine (at_ia (f := fun _ => 0) (hP 4 _ rfl) (fun j hj => ?_) : va_at D vwCl (ad0 a a2 sp 90, .inl (cA 0, 61, .inl (mk1 61 (gk u0 90)))) H)
  rw [mk1, if_pos hj]
  exact (u0z (r := 23) (k := 0 + j) (by omega)).symm
set_option maxRecDepth 20000 in
theorem fw_91 (hP : va_P D vwCl (FX6 cA a2) H) : va_at D vwCl (ad0 a a2 sp 91, cellE (ad0 a a2 sp) cA u0 91) H := by
  refine (at_ia (f := fun _ => 0) (hP 5 _ rfl) (fun j hj => ?_) : va_at D vwCl (ad0 a a2 sp 91, .inl (cA 0, 7, .inl (mk1 7 (gk u0 91)))) H)
  rw [mk1, if_pos hj]
  exact (u0z (r := 24) (k := 0 + j) (by omega)).symm
set_option maxRecDepth 20000 in
theorem fw_92 (hP : va_P D vwCl (FX6 cA a2) H) : va_at D vwCl (ad0 a a2 sp 92, cellE (ad0 a a2 sp) cA u0 92) H := by
  refine (at_ia (f := fun _ => 0) (hP 6 _ rfl) (fun j hj => ?_) : va_at D vwCl (ad0 a a2 sp 92, .inl (cA 0, 120, .inl (mk1 120 (gk u0 92)))) H)
  rw [mk1, if_pos hj]
  exact (u0z (r := 26) (k := 0 + j) (by omega)).symm
set_option maxRecDepth 20000 in
theorem fw_93 (hP : va_P D vwCl (FX6 cA a2) H) : va_at D vwCl (ad0 a a2 sp 93, cellE (ad0 a a2 sp) cA u0 93) H := by
  refine (at_ia (f := fun _ => 0) (hP 7 _ rfl) (fun j hj => ?_) : va_at D vwCl (ad0 a a2 sp 93, .inl (cA 0, 4, .inl (mk1 4 (gk u0 93)))) H)
  rw [mk1, if_pos hj]
  exact (u0z (r := 27) (k := 0 + j) (by omega)).symm
set_option maxRecDepth 20000 in
theorem fw_94 (hP : va_P D vwCl (FX6 cA a2) H) : va_at D vwCl (ad0 a a2 sp 94, cellE (ad0 a a2 sp) cA u0 94) H := by
  refine (at_ia (f := fun _ => 0) (hP 8 _ rfl) (fun j hj => ?_) : va_at D vwCl (ad0 a a2 sp 94, .inl (cA 0, 4, .inl (mk1 4 (gk u0 94)))) H)
  rw [mk1, if_pos hj]
  exact (u0z (r := 28) (k := 0 + j) (by omega)).symm
set_option maxRecDepth 20000 in
theorem fw_95 (hP : va_P D vwCl (FX6 cA a2) H) : va_at D vwCl (ad0 a a2 sp 95, cellE (ad0 a a2 sp) cA u0 95) H := by
  exact (at_la (f := fun _ => 0) (hP 9 _ rfl) (fun j hj => by rw [mk2, if_pos hj]; rfl) : va_at D vwCl (ad0 a a2 sp 95, .inl (cA 1, 160, .inr (.inl (mk2 160 (hk u0 95))))) H)
set_option maxRecDepth 20000 in
theorem fw_96 (hP : va_P D vwCl (FX6 cA a2) H) : va_at D vwCl (ad0 a a2 sp 96, cellE (ad0 a a2 sp) cA u0 96) H := by
  exact (at_la (f := fun _ => 0) (hP 10 _ rfl) (fun j hj => by rw [mk2, if_pos hj]; rfl) : va_at D vwCl (ad0 a a2 sp 96, .inl (cA 1, 40, .inr (.inl (mk2 40 (hk u0 96))))) H)
theorem fw_all (hP : va_P D vwCl (FX5 cA a) H) (hQ : va_P D vwCl (FX6 cA a2) H) : va_P D vwCl (wl (ad0 a a2 sp) cA u0) H := by
  intro k q hq
  have hk : k < 97 := by
    have := (List.getElem?_eq_some_iff.mp hq).1
    simpa [wl] using this
  rw [wl_get hk] at hq
  cases hq
  match k, hk with
  | 0, _ => exact fw_0 hP
  | 1, _ => exact fw_1 hP
  | 2, _ => exact fw_2 hP
  | 3, _ => exact fw_3 hP
  | 4, _ => exact fw_4 hP
  | 5, _ => exact fw_5 hP
  | 6, _ => exact fw_6 hP
  | 7, _ => exact fw_7 hP
  | 8, _ => exact fw_8 hP
  | 9, _ => exact fw_9 hP
  | 10, _ => exact fw_10 hP
  | 11, _ => exact fw_11 hP
  | 12, _ => exact fw_12 hP
  | 13, _ => exact fw_13 hP
  | 14, _ => exact fw_14 hP
  | 15, _ => exact fw_15 hP
  | 16, _ => exact fw_16 hP
  | 17, _ => exact fw_17 hP
  | 18, _ => exact fw_18 hP
  | 19, _ => exact fw_19 hP
  | 20, _ => exact fw_20 hP
  | 21, _ => exact fw_21 hP
  | 22, _ => exact fw_22 hP
  | 23, _ => exact fw_23 hP
  | 24, _ => exact fw_24 hP
  | 25, _ => exact fw_25 hP
  | 26, _ => exact fw_26 hP
  | 27, _ => exact fw_27 hP
  | 28, _ => exact fw_28 hP
  | 29, _ => exact fw_29 hP
  | 30, _ => exact fw_30 hP
  | 31, _ => exact fw_31 hP
  | 32, _ => exact fw_32 hP
  | 33, _ => exact fw_33 hP
  | 34, _ => exact fw_34 hP
  | 35, _ => exact fw_35 hP
  | 36, _ => exact fw_36 hP
  | 37, _ => exact fw_37 hP
  | 38, _ => exact fw_38 hP
  | 39, _ => exact fw_39 hP
  | 40, _ => exact fw_40 hP
  | 41, _ => exact fw_41 hP
  | 42, _ => exact fw_42 hP
  | 43, _ => exact fw_43 hP
  | 44, _ => exact fw_44 hP
  | 45, _ => exact fw_45 hP
  | 46, _ => exact fw_46 hP
  | 47, _ => exact fw_47 hP
  | 48, _ => exact fw_48 hP
  | 49, _ => exact fw_49 hP
  | 50, _ => exact fw_50 hP
  | 51, _ => exact fw_51 hP
  | 52, _ => exact fw_52 hP
  | 53, _ => exact fw_53 hP
  | 54, _ => exact fw_54 hP
  | 55, _ => exact fw_55 hP
  | 56, _ => exact fw_56 hP
  | 57, _ => exact fw_57 hP
  | 58, _ => exact fw_58 hP
  | 59, _ => exact fw_59 hP
  | 60, _ => exact fw_60 hP
  | 61, _ => exact fw_61 hP
  | 62, _ => exact fw_62 hP
  | 63, _ => exact fw_63 hP
  | 64, _ => exact fw_64 hP
  | 65, _ => exact fw_65 hP
  | 66, _ => exact fw_66 hP
  | 67, _ => exact fw_67 hP
  | 68, _ => exact fw_68 hP
  | 69, _ => exact fw_69 hP
  | 70, _ => exact fw_70 hP
  | 71, _ => exact fw_71 hP
  | 72, _ => exact fw_72 hP
  | 73, _ => exact fw_73 hP
  | 74, _ => exact fw_74 hP
  | 75, _ => exact fw_75 hP
  | 76, _ => exact fw_76 hP
  | 77, _ => exact fw_77 hP
  | 78, _ => exact fw_78 hP
  | 79, _ => exact fw_79 hP
  | 80, _ => exact fw_80 hP
  | 81, _ => exact fw_81 hP
  | 82, _ => exact fw_82 hP
  | 83, _ => exact fw_83 hP
  | 84, _ => exact fw_84 hP
  | 85, _ => exact fw_85 hP
  | 86, _ => exact fw_86 hQ
  | 87, _ => exact fw_87 hQ
  | 88, _ => exact fw_88 hQ
  | 89, _ => exact fw_89 hQ
  | 90, _ => exact fw_90 hQ
  | 91, _ => exact fw_91 hQ
  | 92, _ => exact fw_92 hQ
  | 93, _ => exact fw_93 hQ
  | 94, _ => exact fw_94 hQ
  | 95, _ => exact fw_95 hQ
  | 96, _ => exact fw_96 hQ
  | k + 97, hk => exact absurd hk (by omega)
end First
theorem fa5 {cA : Nat → ClassId} {a : Nat → Nat} : ∀ i, i < 86 → ∃ e, (FX5 cA a)[i]? = some (a i, e) := by
  intro i hi
  match i, hi with
  | 0, _ => exact ⟨_, rfl⟩
  | 1, _ => exact ⟨_, rfl⟩
  | 2, _ => exact ⟨_, rfl⟩
  | 3, _ => exact ⟨_, rfl⟩
  | 4, _ => exact ⟨_, rfl⟩
  | 5, _ => exact ⟨_, rfl⟩
  | 6, _ => exact ⟨_, rfl⟩
  | 7, _ => exact ⟨_, rfl⟩
  | 8, _ => exact ⟨_, rfl⟩
  | 9, _ => exact ⟨_, rfl⟩
  | 10, _ => exact ⟨_, rfl⟩
  | 11, _ => exact ⟨_, rfl⟩
  | 12, _ => exact ⟨_, rfl⟩
  | 13, _ => exact ⟨_, rfl⟩
  | 14, _ => exact ⟨_, rfl⟩
  | 15, _ => exact ⟨_, rfl⟩
  | 16, _ => exact ⟨_, rfl⟩
  | 17, _ => exact ⟨_, rfl⟩
  | 18, _ => exact ⟨_, rfl⟩
  | 19, _ => exact ⟨_, rfl⟩
  | 20, _ => exact ⟨_, rfl⟩
  | 21, _ => exact ⟨_, rfl⟩
  | 22, _ => exact ⟨_, rfl⟩
  | 23, _ => exact ⟨_, rfl⟩
  | 24, _ => exact ⟨_, rfl⟩
  | 25, _ => exact ⟨_, rfl⟩
  | 26, _ => exact ⟨_, rfl⟩
  | 27, _ => exact ⟨_, rfl⟩
  | 28, _ => exact ⟨_, rfl⟩
  | 29, _ => exact ⟨_, rfl⟩
  | 30, _ => exact ⟨_, rfl⟩
  | 31, _ => exact ⟨_, rfl⟩
  | 32, _ => exact ⟨_, rfl⟩
  | 33, _ => exact ⟨_, rfl⟩
  | 34, _ => exact ⟨_, rfl⟩
  | 35, _ => exact ⟨_, rfl⟩
  | 36, _ => exact ⟨_, rfl⟩
  | 37, _ => exact ⟨_, rfl⟩
  | 38, _ => exact ⟨_, rfl⟩
  | 39, _ => exact ⟨_, rfl⟩
  | 40, _ => exact ⟨_, rfl⟩
  | 41, _ => exact ⟨_, rfl⟩
  | 42, _ => exact ⟨_, rfl⟩
  | 43, _ => exact ⟨_, rfl⟩
  | 44, _ => exact ⟨_, rfl⟩
  | 45, _ => exact ⟨_, rfl⟩
  | 46, _ => exact ⟨_, rfl⟩
  | 47, _ => exact ⟨_, rfl⟩
  | 48, _ => exact ⟨_, rfl⟩
  | 49, _ => exact ⟨_, rfl⟩
  | 50, _ => exact ⟨_, rfl⟩
  | 51, _ => exact ⟨_, rfl⟩
  | 52, _ => exact ⟨_, rfl⟩
  | 53, _ => exact ⟨_, rfl⟩
  | 54, _ => exact ⟨_, rfl⟩
  | 55, _ => exact ⟨_, rfl⟩
  | 56, _ => exact ⟨_, rfl⟩
  | 57, _ => exact ⟨_, rfl⟩
  | 58, _ => exact ⟨_, rfl⟩
  | 59, _ => exact ⟨_, rfl⟩
  | 60, _ => exact ⟨_, rfl⟩
  | 61, _ => exact ⟨_, rfl⟩
  | 62, _ => exact ⟨_, rfl⟩
  | 63, _ => exact ⟨_, rfl⟩
  | 64, _ => exact ⟨_, rfl⟩
  | 65, _ => exact ⟨_, rfl⟩
  | 66, _ => exact ⟨_, rfl⟩
  | 67, _ => exact ⟨_, rfl⟩
  | 68, _ => exact ⟨_, rfl⟩
  | 69, _ => exact ⟨_, rfl⟩
  | 70, _ => exact ⟨_, rfl⟩
  | 71, _ => exact ⟨_, rfl⟩
  | 72, _ => exact ⟨_, rfl⟩
  | 73, _ => exact ⟨_, rfl⟩
  | 74, _ => exact ⟨_, rfl⟩
  | 75, _ => exact ⟨_, rfl⟩
  | 76, _ => exact ⟨_, rfl⟩
  | 77, _ => exact ⟨_, rfl⟩
  | 78, _ => exact ⟨_, rfl⟩
  | 79, _ => exact ⟨_, rfl⟩
  | 80, _ => exact ⟨_, rfl⟩
  | 81, _ => exact ⟨_, rfl⟩
  | 82, _ => exact ⟨_, rfl⟩
  | 83, _ => exact ⟨_, rfl⟩
  | 84, _ => exact ⟨_, rfl⟩
  | 85, _ => exact ⟨_, rfl⟩
  | k + 86, hk => exact absurd hk (by omega)
theorem fa6 {cA : Nat → ClassId} {a : Nat → Nat} : ∀ i, i < 11 → ∃ e, (FX6 cA a)[i]? = some (a i, e) := by
  intro i hi
  match i, hi with
  | 0, _ => exact ⟨_, rfl⟩
  | 1, _ => exact ⟨_, rfl⟩
  | 2, _ => exact ⟨_, rfl⟩
  | 3, _ => exact ⟨_, rfl⟩
  | 4, _ => exact ⟨_, rfl⟩
  | 5, _ => exact ⟨_, rfl⟩
  | 6, _ => exact ⟨_, rfl⟩
  | 7, _ => exact ⟨_, rfl⟩
  | 8, _ => exact ⟨_, rfl⟩
  | 9, _ => exact ⟨_, rfl⟩
  | 10, _ => exact ⟨_, rfl⟩
  | k + 11, hk => exact absurd hk (by omega)
theorem fa_all {cA : Nat → ClassId} {a a2 sp : Nat → Nat} {k : Nat} (hk : k < 97) : ∃ e, (FX5 cA a ++ FX6 cA a2)[pm k]? = some (ad0 a a2 sp k, e) := by
  have h := pm_lt k hk
  unfold ad0
  rw [if_pos hk]
  by_cases h86 : pm k < 86
  · rw [if_pos h86]
    obtain ⟨e, he⟩ := fa5 (cA := cA) (a := a) (pm k) h86
    exact ⟨e, by rw [List.getElem?_append_left (show pm k < (FX5 cA a).length from h86)]; exact he⟩
  · rw [if_neg h86]
    obtain ⟨e, he⟩ := fa6 (cA := cA) (a := a2) (pm k - 86) (by omega)
    exact ⟨e, by rw [List.getElem?_append_right (show (FX5 cA a).length ≤ pm k from Nat.not_lt.mp h86)]; exact he⟩
theorem fw_inj {A : Nat → Prop} {cA : Nat → ClassId} {a a2 sp : Nat → Nat} (hD : va_D A (FX5 cA a ++ FX6 cA a2)) : injA (ad0 a a2 sp) := by
  intro i j hi hj e
  obtain ⟨x, hx⟩ := fa_all (cA := cA) (a := a) (a2 := a2) (sp := sp) hi
  obtain ⟨y, hy⟩ := fa_all (cA := cA) (a := a) (a2 := a2) (sp := sp) hj
  exact pm_inj i hi j hj (hD.1 _ _ _ _ hx hy e)
theorem fw_new {A : Nat → Prop} {cA : Nat → ClassId} {a a2 sp : Nat → Nat} (hD : va_D A (FX5 cA a ++ FX6 cA a2)) : ∀ k, k < 97 → A (ad0 a a2 sp k) := by
  intro k hk
  obtain ⟨x, hx⟩ := fa_all (cA := cA) (a := a) (a2 := a2) (sp := sp) hk
  exact hD.2 _ _ hx

set_option maxHeartbeats 4000000 in
set_option maxRecDepth 100000 in
/-- THE LAW, from its entry, if every call keeps what holds of the first world -/
theorem whole_from {R : Uw → Prop} (hR0 : R u0) (hR : Steps41 R) {p : Program} {e : Env} {s : State} {m : MethodId} {below : List Frame} {meth : Method} {c : Code} (l : Launch) {b L : Nat} {xs : Nat → Int32} (hL : L ≤ 3072) (C0 : lw_At p s m meth c b L xs) : W p l e room_1 s m #[Value.ref b] below meth c s.heap [] 0 0 (lw_Z below #[Value.ref b] s) (entryFrame m ([Value.ref b] : List Value).toArray 4) := by
  obtain ⟨hx, hb, hr, hml, hown, hts, hX, hbl, hlocks, hgv⟩ := C0
  have hg := GW_tbl hts
  obtain ⟨D, cA, hK⟩ := start_K hts
  obtain ⟨sp, hsp⟩ := start_St hts hgv
  have hN : ∀ w ∈ NW, va_Nw w s := fun w hw => va_Nw.of (NW_on w hw) (hts w (NW_tbl w hw))
  have hO : AOs s := ⟨va_AO.of (hts _ ao_X0), va_AO.of (hts _ ao_X1), va_AO.of (hts _ ao_X2)⟩
  have hA : ∀ q : Nat, s.heap.size ≤ q → (fun q : Nat => s.heap.size ≤ q) q := fun _ h => h
  have hS : va_S (fun q : Nat => s.heap.size ≤ q) s.heap s.heap [] := va_S.rf
  have hP : va_P D vwCl [] s.heap := fun k q h => by simp at h
  have hD : va_D (fun q : Nat => s.heap.size ≤ q) [] := ⟨fun i j p q h => by simp at h, fun k q h => by simp at h⟩
  have hl := lv_entry ([.ref b]) (n := 4) (Nat.le_of_ble_eq_true rfl)
  rw [lg_entry_eq]
  generalize (lg_sl ([.ref b]) ++ List.replicate (4 - (lg_sl ([.ref b])).length) Slot.unset).toArray = ls at hl ⊢
  have hl : lv_has ls 4 [(0, .ref b)] := hl
  refine va_new (D := D) (cl := vwCl) (ci := 5) (fs := [.null, .null, .int 0, .null, .null, .null, .null, .null, .null]) hx hb hg clX5.2.1 tyX5 tyX5_ok hown (hg _ (GW_in (inT_1 (List.mem_of_getElem? (i := 15) rfl)) rfl : Cond.classLink R_law 7 RX5 ∈ GW)) (hg _ (GW_in (inT_1 (List.mem_of_getElem? (i := 16) rfl)) rfl : Cond.instantiable RX5 9 ∈ GW)) (hg _ gw378) hK hP hD hS hA clX5.1 (fun j hj => by rcases (show j = 0 ∨ j = 1 ∨ j = 2 ∨ j = 3 ∨ j = 4 ∨ j = 5 ∨ j = 6 ∨ j = 7 ∨ j = 8 by omega) with rfl | rfl | rfl | rfl | rfl | rfl | rfl | rfl | rfl <;> rfl) (Nat.le_of_ble_eq_true rfl) (Nat.le_of_ble_eq_true rfl) dL_law_0 (fun q0 H1 hP1 hD1 hS1 => ?_)
  refine lv_dup hx hb dL_law_3 rfl ?_
  refine init_core (wr := []) (e0 := .inr (5, [.null, .null, .int 0, .null, .null, .null, .null, .null, .null])) (a0 := ([Value.ref q0] : List Value).toArray) (va_runI (Ts := GW) (b := q0) (As := []) (rest := [.ref q0]) (nL := 4) ⟨hx, hb, hml, hown, hg⟩ (cn_X5 l q0 D cA H1.size) ⟨callB_of 0 hg (goodGW mn_X5.1) rfl mn_X5.2.2.2.1 mn_X5.2.2.2.2.1 (hg _ mn_X5.2.1) (hg _ (GW_in (inT_1 (List.mem_of_getElem? (i := 17) rfl)) rfl : Cond.methodLink R_law 9 yX5_init ∈ GW)) mn_X5.2.2.1 ⟨Nat.le_of_ble_eq_true rfl, Nat.le_of_ble_eq_true rfl⟩, mn_X5.2.2.2.2.2.1, hg _ mn_X5.2.2.2.2.2.2⟩
    ⟨wdn_blind, fun U hU hW => ⟨rfl, wdn_at hK hN hO hP1 U hU hW⟩⟩ rfl rfl hl.1 rfl (lv_room (Nat.le_of_ble_eq_true rfl)) dL_law_4 ⟨Nat.le_of_ble_eq_true rfl, Nat.le_of_ble_eq_true rfl⟩) hP1 hD1 hS1 hA (fun a H2 locs2 ha hP2 hD2 hS2 => ?_)
  subst ha
  refine lv_astore_n (lv' := [(1, .ref (a 0)), (0, .ref b)]) hx hb dL_law_7 rfl hl (by decide) rfl (fun ls hl => ?_)
  have hP3 : va_P D vwCl (FX5 cA a) H2 := hP2
  have hD3 : va_D (fun q : Nat => s.heap.size ≤ q) (FX5 cA a) := hD2
  refine va_new (D := D) (cl := vwCl) (ci := 6) (fs := [.null, .null, .null, .null, .null, .int 0, .null, .int 0, .int 0, .int 0, .int 0, .int 0, .null, .null, .null, .null]) hx hb hg clX6.2.1 tyX6 tyX6_ok hown (hg _ (GW_in (inT_4 (List.mem_of_getElem? (i := 27) rfl)) rfl : Cond.classLink R_law 10 RX6 ∈ GW)) (hg _ (GW_in (inT_4 (List.mem_of_getElem? (i := 28) rfl)) rfl : Cond.instantiable RX6 16 ∈ GW)) (hg _ gw669) hK hP3 hD3 hS2 hA clX6.1 (fun j hj => by rcases (show j = 0 ∨ j = 1 ∨ j = 2 ∨ j = 3 ∨ j = 4 ∨ j = 5 ∨ j = 6 ∨ j = 7 ∨ j = 8 ∨ j = 9 ∨ j = 10 ∨ j = 11 ∨ j = 12 ∨ j = 13 ∨ j = 14 ∨ j = 15 by omega) with rfl | rfl | rfl | rfl | rfl | rfl | rfl | rfl | rfl | rfl | rfl | rfl | rfl | rfl | rfl | rfl <;> rfl) (Nat.le_of_ble_eq_true rfl) (Nat.le_of_ble_eq_true rfl) dL_law_8 (fun q1 H4 hP4 hD4 hS4 => ?_)
  refine lv_dup hx hb dL_law_11 rfl ?_
  refine init_core (wr := FX5 cA a) (e0 := .inr (6, [.null, .null, .null, .null, .null, .int 0, .null, .int 0, .int 0, .int 0, .int 0, .int 0, .null, .null, .null, .null])) (a0 := ([Value.ref q1] : List Value).toArray) (va_runI (Ts := GW) (b := q1) (As := []) (rest := [.ref q1]) (nL := 4) ⟨hx, hb, hml, hown, hg⟩ (cn_X6 l q1 D cA H4.size) ⟨callB_of 0 hg (goodGW mn_X6.1) rfl mn_X6.2.2.2.1 mn_X6.2.2.2.2.1 (hg _ mn_X6.2.1) (hg _ (GW_in (inT_4 (List.mem_of_getElem? (i := 29) rfl)) rfl : Cond.methodLink R_law 12 yX6_init ∈ GW)) mn_X6.2.2.1 ⟨Nat.le_of_ble_eq_true rfl, Nat.le_of_ble_eq_true rfl⟩, mn_X6.2.2.2.2.2.1, hg _ mn_X6.2.2.2.2.2.2⟩
    ⟨wdn_blind, fun U hU hW => ⟨rfl, wdn_at hK hN hO hP4 U hU hW⟩⟩ rfl rfl hl.1 rfl (lv_room (Nat.le_of_ble_eq_true rfl)) dL_law_12 ⟨Nat.le_of_ble_eq_true rfl, Nat.le_of_ble_eq_true rfl⟩) hP4 hD4 hS4 hA (fun a2 H5 locs5 ha hP5 hD5 hS5 => ?_)
  subst ha
  refine lv_astore_n (lv' := [(2, .ref (a2 0)), (1, .ref (a 0)), (0, .ref b)]) hx hb dL_law_15 rfl hl (by decide) rfl (fun ls hl => ?_)
  refine lv_iconst (v := 0) hx hb dL_law_16 (by decide) ?_
  refine lv_istore_n (lv' := [(3, .int 0), (2, .ref (a2 0)), (1, .ref (a 0)), (0, .ref b)]) hx hb dL_law_17 rfl hl (by decide) rfl (fun ls hl => ?_)
  refine W.widen (k := 600000) (n := 7302250) (Nat.le_of_ble_eq_true rfl) (Nat.le_of_ble_eq_true rfl) ?_
  have hnew := fw_new (sp := sp) hD5
  have hP6 : va_P D vwCl (FX5 cA a) H5 := fun k q hk => hP5 k q (by rw [List.getElem?_append_left (List.getElem?_eq_some_iff.mp hk).1]; exact hk)
  have hP7 : va_P D vwCl (FX6 cA a2) H5 := fun k q hk => hP5 ((FX5 cA a).length + k) q (by rw [List.getElem?_append_right (by omega), Nat.add_sub_cancel_left]; exact hk)
  exact law_loop (X := (p, l, e, s, m, #[Value.ref b], below, meth, c, D, cA)) (ad := ad0 a a2 sp) (xs := xs) hR hL (L + 8) 0 u0 (by omega) (by omega) hR0
    ⟨hx, hb, hml, hown, hg, hlocks, hr, fw_inj hD5, hK, hsp _ hnew (fun k hk => if_neg (by omega)), hX, hbl, hnew, rfl⟩ H5 locs5 ls (fw_all hP6 hP7) hS5 hl
