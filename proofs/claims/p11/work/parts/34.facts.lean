def zF : List Cond := flatC (Jvm.Cond.and given_1 narrow_1)
set_option maxRecDepth 100000 in
theorem zS0 : (zF.drop 47).take 27 = sCo (zTx.getD 0 ("", 0, [])) := by decide +kernel
set_option maxRecDepth 100000 in
theorem zS1 : (zF.drop 74).take 30 = sCo (zTx.getD 1 ("", 0, [])) := by decide +kernel
set_option maxRecDepth 100000 in
theorem zS2 : (zF.drop 104).take 11 = sCo (zTx.getD 2 ("", 0, [])) := by decide +kernel
set_option maxRecDepth 100000 in
theorem zS3 : (zF.drop 115).take 49 = sCo (zTx.getD 3 ("", 0, [])) := by decide +kernel
set_option maxRecDepth 100000 in
theorem zS4 : (zF.drop 164).take 22 = sCo (zTx.getD 4 ("", 0, [])) := by decide +kernel
set_option maxRecDepth 100000 in
theorem zS5 : (zF.drop 186).take 8 = sCo (zTx.getD 5 ("", 0, [])) := by decide +kernel
set_option maxRecDepth 100000 in
theorem zS6 : (zF.drop 194).take 9 = sCo (zTx.getD 6 ("", 0, [])) := by decide +kernel
set_option maxRecDepth 100000 in
theorem zS7 : (zF.drop 203).take 26 = sCo (zTx.getD 7 ("", 0, [])) := by decide +kernel
set_option maxRecDepth 100000 in
theorem zS8 : (zF.drop 229).take 48 = sCo (zTx.getD 8 ("", 0, [])) := by decide +kernel
set_option maxRecDepth 100000 in
theorem zS9 : (zF.drop 277).take 37 = sCo (zTx.getD 9 ("", 0, [])) := by decide +kernel
set_option maxRecDepth 100000 in
theorem zS10 : (zF.drop 314).take 10 = sCo (zTx.getD 10 ("", 0, [])) := by decide +kernel
set_option maxRecDepth 100000 in
theorem zS11 : (zF.drop 324).take 11 = sCo (zTx.getD 11 ("", 0, [])) := by decide +kernel
set_option maxRecDepth 100000 in
theorem zS12 : (zF.drop 335).take 11 = sCo (zTx.getD 12 ("", 0, [])) := by decide +kernel
set_option maxRecDepth 100000 in
theorem zS13 : (zF.drop 346).take 9 = sCo (zTx.getD 13 ("", 0, [])) := by decide +kernel
set_option maxRecDepth 100000 in
theorem zS14 : (zF.drop 355).take 10 = sCo (zTx.getD 14 ("", 0, [])) := by decide +kernel
set_option maxRecDepth 100000 in
theorem zS15 : (zF.drop 365).take 9 = sCo (zTx.getD 15 ("", 0, [])) := by decide +kernel
set_option maxRecDepth 100000 in
theorem zS16 : (zF.drop 374).take 8 = sCo (zTx.getD 16 ("", 0, [])) := by decide +kernel
set_option maxRecDepth 100000 in
theorem zS17 : (zF.drop 382).take 32 = sCo (zTx.getD 17 ("", 0, [])) := by decide +kernel
set_option maxRecDepth 100000 in
theorem zS18 : (zF.drop 414).take 42 = sCo (zTx.getD 18 ("", 0, [])) := by decide +kernel
set_option maxRecDepth 100000 in
theorem zS19 : (zF.drop 456).take 28 = sCo (zTx.getD 19 ("", 0, [])) := by decide +kernel
set_option maxRecDepth 100000 in
theorem zS20 : (zF.drop 484).take 8 = sCo (zTx.getD 20 ("", 0, [])) := by decide +kernel
set_option maxRecDepth 100000 in
theorem zS21 : (zF.drop 493).take 9 = sCo (zTx.getD 21 ("", 0, [])) := by decide +kernel
set_option maxRecDepth 100000 in
theorem zS22 : (zF.drop 503).take 5 = sCo (zTx.getD 22 ("", 0, [])) := by decide +kernel
set_option maxRecDepth 100000 in
theorem zS23 : (zF.drop 508).take 5 = sCo (zTx.getD 23 ("", 0, [])) := by decide +kernel
set_option maxRecDepth 100000 in
theorem zS24 : (zF.drop 513).take 5 = sCo (zTx.getD 24 ("", 0, [])) := by decide +kernel
set_option maxRecDepth 100000 in
theorem zS25 : (zF.drop 518).take 5 = sCo (zTx.getD 25 ("", 0, [])) := by decide +kernel
set_option maxRecDepth 100000 in
theorem zS26 : (zF.drop 523).take 5 = sCo (zTx.getD 26 ("", 0, [])) := by decide +kernel
set_option maxRecDepth 100000 in
theorem zS27 : (zF.drop 528).take 5 = sCo (zTx.getD 27 ("", 0, [])) := by decide +kernel
set_option maxRecDepth 100000 in
theorem zS28 : (zF.drop 533).take 5 = sCo (zTx.getD 28 ("", 0, [])) := by decide +kernel
set_option maxRecDepth 100000 in
theorem zS29 : (zF.drop 538).take 5 = sCo (zTx.getD 29 ("", 0, [])) := by decide +kernel
set_option maxRecDepth 100000 in
theorem zS30 : (zF.drop 543).take 6 = sCo (zTx.getD 30 ("", 0, [])) := by decide +kernel
set_option maxRecDepth 100000 in
theorem zS31 : (zF.drop 549).take 5 = sCo (zTx.getD 31 ("", 0, [])) := by decide +kernel
set_option maxRecDepth 100000 in
theorem zS32 : (zF.drop 554).take 5 = sCo (zTx.getD 32 ("", 0, [])) := by decide +kernel
set_option maxRecDepth 100000 in
theorem zS33 : (zF.drop 559).take 6 = sCo (zTx.getD 33 ("", 0, [])) := by decide +kernel
set_option maxRecDepth 100000 in
theorem zS34 : (zF.drop 565).take 6 = sCo (zTx.getD 34 ("", 0, [])) := by decide +kernel
set_option maxRecDepth 100000 in
theorem zS35 : (zF.drop 571).take 36 = sCo (zTx.getD 35 ("", 0, [])) := by decide +kernel
set_option maxRecDepth 100000 in
theorem zS36 : (zF.drop 607).take 22 = sCo (zTx.getD 36 ("", 0, [])) := by decide +kernel
set_option maxRecDepth 100000 in
theorem zS37 : (zF.drop 629).take 22 = sCo (zTx.getD 37 ("", 0, [])) := by decide +kernel
theorem zSc_at : ∀ j, j < zTx.length → ∀ w ∈ sCo (zTx.getD j ("", 0, [])), w ∈ zF := by
  intro j hj w hw
  have hj : j < 38 := hj
  match j, hj with
  | 0, _ => rw [← zS0] at hw; exact List.mem_of_mem_drop (List.mem_of_mem_take hw)
  | 1, _ => rw [← zS1] at hw; exact List.mem_of_mem_drop (List.mem_of_mem_take hw)
  | 2, _ => rw [← zS2] at hw; exact List.mem_of_mem_drop (List.mem_of_mem_take hw)
  | 3, _ => rw [← zS3] at hw; exact List.mem_of_mem_drop (List.mem_of_mem_take hw)
  | 4, _ => rw [← zS4] at hw; exact List.mem_of_mem_drop (List.mem_of_mem_take hw)
  | 5, _ => rw [← zS5] at hw; exact List.mem_of_mem_drop (List.mem_of_mem_take hw)
  | 6, _ => rw [← zS6] at hw; exact List.mem_of_mem_drop (List.mem_of_mem_take hw)
  | 7, _ => rw [← zS7] at hw; exact List.mem_of_mem_drop (List.mem_of_mem_take hw)
  | 8, _ => rw [← zS8] at hw; exact List.mem_of_mem_drop (List.mem_of_mem_take hw)
  | 9, _ => rw [← zS9] at hw; exact List.mem_of_mem_drop (List.mem_of_mem_take hw)
  | 10, _ => rw [← zS10] at hw; exact List.mem_of_mem_drop (List.mem_of_mem_take hw)
  | 11, _ => rw [← zS11] at hw; exact List.mem_of_mem_drop (List.mem_of_mem_take hw)
  | 12, _ => rw [← zS12] at hw; exact List.mem_of_mem_drop (List.mem_of_mem_take hw)
  | 13, _ => rw [← zS13] at hw; exact List.mem_of_mem_drop (List.mem_of_mem_take hw)
  | 14, _ => rw [← zS14] at hw; exact List.mem_of_mem_drop (List.mem_of_mem_take hw)
  | 15, _ => rw [← zS15] at hw; exact List.mem_of_mem_drop (List.mem_of_mem_take hw)
  | 16, _ => rw [← zS16] at hw; exact List.mem_of_mem_drop (List.mem_of_mem_take hw)
  | 17, _ => rw [← zS17] at hw; exact List.mem_of_mem_drop (List.mem_of_mem_take hw)
  | 18, _ => rw [← zS18] at hw; exact List.mem_of_mem_drop (List.mem_of_mem_take hw)
  | 19, _ => rw [← zS19] at hw; exact List.mem_of_mem_drop (List.mem_of_mem_take hw)
  | 20, _ => rw [← zS20] at hw; exact List.mem_of_mem_drop (List.mem_of_mem_take hw)
  | 21, _ => rw [← zS21] at hw; exact List.mem_of_mem_drop (List.mem_of_mem_take hw)
  | 22, _ => rw [← zS22] at hw; exact List.mem_of_mem_drop (List.mem_of_mem_take hw)
  | 23, _ => rw [← zS23] at hw; exact List.mem_of_mem_drop (List.mem_of_mem_take hw)
  | 24, _ => rw [← zS24] at hw; exact List.mem_of_mem_drop (List.mem_of_mem_take hw)
  | 25, _ => rw [← zS25] at hw; exact List.mem_of_mem_drop (List.mem_of_mem_take hw)
  | 26, _ => rw [← zS26] at hw; exact List.mem_of_mem_drop (List.mem_of_mem_take hw)
  | 27, _ => rw [← zS27] at hw; exact List.mem_of_mem_drop (List.mem_of_mem_take hw)
  | 28, _ => rw [← zS28] at hw; exact List.mem_of_mem_drop (List.mem_of_mem_take hw)
  | 29, _ => rw [← zS29] at hw; exact List.mem_of_mem_drop (List.mem_of_mem_take hw)
  | 30, _ => rw [← zS30] at hw; exact List.mem_of_mem_drop (List.mem_of_mem_take hw)
  | 31, _ => rw [← zS31] at hw; exact List.mem_of_mem_drop (List.mem_of_mem_take hw)
  | 32, _ => rw [← zS32] at hw; exact List.mem_of_mem_drop (List.mem_of_mem_take hw)
  | 33, _ => rw [← zS33] at hw; exact List.mem_of_mem_drop (List.mem_of_mem_take hw)
  | 34, _ => rw [← zS34] at hw; exact List.mem_of_mem_drop (List.mem_of_mem_take hw)
  | 35, _ => rw [← zS35] at hw; exact List.mem_of_mem_drop (List.mem_of_mem_take hw)
  | 36, _ => rw [← zS36] at hw; exact List.mem_of_mem_drop (List.mem_of_mem_take hw)
  | 37, _ => rw [← zS37] at hw; exact List.mem_of_mem_drop (List.mem_of_mem_take hw)
  | j + 38, h => exact absurd h (by omega)
set_option maxRecDepth 100000 in
theorem zN01 : Cond.not (Cond.castable "java/lang/IllegalArgumentException" "java/lang/IllegalStateException") ∈ zF := List.mem_of_getElem? (i := 33) (by decide +kernel)
set_option maxRecDepth 100000 in
theorem zN02 : Cond.not (Cond.castable "java/lang/IllegalArgumentException" "java/lang/IndexOutOfBoundsException") ∈ zF := List.mem_of_getElem? (i := 45) (by decide +kernel)
set_option maxRecDepth 100000 in
theorem zN10 : Cond.not (Cond.castable "java/lang/IllegalStateException" "java/lang/IllegalArgumentException") ∈ zF := List.mem_of_getElem? (i := 21) (by decide +kernel)
set_option maxRecDepth 100000 in
theorem zN12 : Cond.not (Cond.castable "java/lang/IllegalStateException" "java/lang/IndexOutOfBoundsException") ∈ zF := List.mem_of_getElem? (i := 46) (by decide +kernel)
set_option maxRecDepth 100000 in
theorem zN20 : Cond.not (Cond.castable "java/lang/IndexOutOfBoundsException" "java/lang/IllegalArgumentException") ∈ zF := List.mem_of_getElem? (i := 22) (by decide +kernel)
set_option maxRecDepth 100000 in
theorem zN21 : Cond.not (Cond.castable "java/lang/IndexOutOfBoundsException" "java/lang/IllegalStateException") ∈ zF := List.mem_of_getElem? (i := 34) (by decide +kernel)
set_option maxRecDepth 100000 in
theorem zFc : Cond.eq (.static "java/lang/String" "COMPACT_STRINGS" "Z") (.int 1) ∈ zF := List.mem_of_getElem? (i := 6) (by decide +kernel)
set_option maxRecDepth 100000 in
theorem zFs : Cond.isRef (.static "jdk/internal/util/Preconditions" "SIOOBE_FORMATTER" "Ljava/util/function/BiFunction;") ∈ zF := List.mem_of_getElem? (i := 7) (by decide +kernel)
set_option maxRecDepth 100000 in
theorem zFu : Cond.isRef (.static "java/lang/Throwable" "UNASSIGNED_STACK" "[Ljava/lang/StackTraceElement;") ∈ zF := List.mem_of_getElem? (i := 4) (by decide +kernel)
set_option maxRecDepth 100000 in
theorem zFp : Cond.isRef (.static "java/lang/Throwable" "SUPPRESSED_SENTINEL" "Ljava/util/List;") ∈ zF := List.mem_of_getElem? (i := 5) (by decide +kernel)
