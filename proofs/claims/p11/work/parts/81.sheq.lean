/-! shifted nodes are the same -/
set_option maxRecDepth 100000 in
theorem i_sub_neg (x n : Int32) : x - -n = x + n := by rw [Int32.sub_eq_add_neg, Int32.neg_neg]
set_option maxRecDepth 100000 in
theorem i_add_neg (k n : Int32) : k + -n = k - n := (Int32.sub_eq_add_neg k n).symm
set_option maxRecDepth 100000 in
theorem lt_not_le {x y : Int32} : x < y ↔ ¬ y ≤ x := by
  rw [iLt, iLe]
  omega
/-- numbers that stand in the rows, or columns, that there are -/
def rgP (x m : Int32) : Prop := 1 ≤ x.toInt ∧ x.toInt ≤ m.toInt
set_option maxRecDepth 100000 in
theorem sh_put {x y k n m : Int32} (hm : m.toInt ≤ 1048576) (hx : rgP x m) (hy : rgP y m) (hxy : x.toInt ≤ y.toInt) (hk : rgP k m) (hn : 0 ≤ n.toInt ∧ n.toInt ≤ 1048576) : pA x k n = fB x k n ∧ pB y k n m = lB y k n m ∧ (m < pA x k n ↔ (lB y k n m < fB x k n ∨ ¬ fB x k n ≤ m)) := by
  unfold rgP at hx hy hk
  have n0 : 0 ≤ n := by rw [iLe]; exact hn.1
  have n1 : ¬ n < 0 := by rw [iLt]; show ¬ n.toInt < 0; omega
  have ex : (x + n).toInt = x.toInt + n.toInt := iAdd (by omega) (by omega)
  have ey : (y + n).toInt = y.toInt + n.toInt := iAdd (by omega) (by omega)
  have fx : pA x k n = fB x k n := by
    unfold pA fB
    by_cases q : x < k
    · rw [if_pos q, if_neg (lt_not_le.mp q), Int32.add_zero]
    · rw [if_neg q, if_pos (Classical.byContradiction fun z => q (lt_not_le.mpr z)), if_neg n1]
  have fy : pA y k n = fB y k n := by
    unfold pA fB
    by_cases q : y < k
    · rw [if_pos q, if_neg (lt_not_le.mp q), Int32.add_zero]
    · rw [if_neg q, if_pos (Classical.byContradiction fun z => q (lt_not_le.mpr z)), if_neg n1]
  have vx : (fB x k n).toInt = if k.toInt ≤ x.toInt then x.toInt + n.toInt else x.toInt := by
    unfold fB
    by_cases q : k ≤ x
    · rw [if_pos q, if_neg n1, if_pos (iLe.mp q), ex]
    · rw [if_neg q, if_neg (fun z => q (iLe.mpr z))]
  have vy : (lB y k n m).toInt = if k.toInt ≤ y.toInt then (if y.toInt + n.toInt ≤ m.toInt then y.toInt + n.toInt else m.toInt) else y.toInt := by
    unfold lB
    by_cases q : k ≤ y
    · rw [if_pos q, if_pos n0, if_pos (iLe.mp q)]
      by_cases q2 : y + n ≤ m
      · rw [if_pos q2, if_pos (by rw [← ey]; exact iLe.mp q2), ey]
      · rw [if_neg q2, if_neg (fun z => q2 (iLe.mpr (by rw [ey]; exact z)))]
    · rw [if_neg q, if_neg (fun z => q (iLe.mpr z))]
  refine ⟨fx, ?_, ?_⟩
  · unfold pB
    rw [fy]
    unfold fB lB
    by_cases q : k ≤ y
    · rw [if_pos q, if_neg n1, if_pos q, if_pos n0]
      by_cases q2 : y + n ≤ m
      · rw [if_pos q2, if_neg (fun z => lt_not_le.mp z q2)]
      · rw [if_neg q2, if_pos (lt_not_le.mpr q2)]
    · rw [if_neg q, if_neg q, if_neg]
      rw [iLt]
      omega
  · rw [fx, iLt, iLt, iLe, vx, vy]
    split <;> split <;> (try split) <;> omega
set_option maxRecDepth 100000 in
theorem sh_take {x y k n m : Int32} (hm : m.toInt ≤ 1048576) (hx : rgP x m) (hy : rgP y m) (hxy : x.toInt ≤ y.toInt) (hk : rgP k m) (hn : -1048576 ≤ n.toInt ∧ n.toInt < 0) : tA x k (-n) = fB x k n ∧ tB y k (-n) = lB y k n m ∧ ((¬ x < k ∧ y < k + -n) ↔ (lB y k n m < fB x k n ∨ ¬ fB x k n ≤ m)) := by
  unfold rgP at hx hy hk
  have n0 : ¬ 0 ≤ n := by rw [iLe]; show ¬ (0 : Int) ≤ n.toInt; omega
  have n1 : n < 0 := by rw [iLt]; exact hn.2
  have ex : (x + n).toInt = x.toInt + n.toInt := iAdd (by omega) (by omega)
  have ey : (y + n).toInt = y.toInt + n.toInt := iAdd (by omega) (by omega)
  have ek : (k - n).toInt = k.toInt - n.toInt := iSub (by omega) (by omega)
  have e1 : (k - 1).toInt = k.toInt - 1 := iSub (y := 1) (by show _ ≤ k.toInt - 1; omega) (by show k.toInt - 1 ≤ _; omega)
  have vx : (fB x k n).toInt = if k.toInt ≤ x.toInt then (if k.toInt - n.toInt ≤ x.toInt then x.toInt + n.toInt else k.toInt) else x.toInt := by
    unfold fB
    by_cases q : k ≤ x
    · rw [if_pos q, if_pos n1, if_pos (iLe.mp q)]
      by_cases q2 : k - n ≤ x
      · rw [if_pos q2, if_pos (by rw [← ek]; exact iLe.mp q2), ex]
      · rw [if_neg q2, if_neg (fun z => q2 (iLe.mpr (by rw [ek]; exact z)))]
    · rw [if_neg q, if_neg (fun z => q (iLe.mpr z))]
  have vy : (lB y k n m).toInt = if k.toInt ≤ y.toInt then (if k.toInt - n.toInt ≤ y.toInt then y.toInt + n.toInt else k.toInt - 1) else y.toInt := by
    unfold lB
    by_cases q : k ≤ y
    · rw [if_pos q, if_neg n0, if_pos (iLe.mp q)]
      by_cases q2 : k - n ≤ y
      · rw [if_pos q2, if_pos (by rw [← ek]; exact iLe.mp q2), ey]
      · rw [if_neg q2, if_neg (fun z => q2 (iLe.mpr (by rw [ek]; exact z))), e1]
    · rw [if_neg q, if_neg (fun z => q (iLe.mpr z))]
  refine ⟨?_, ?_, ?_⟩
  · unfold tA fB
    rw [i_sub_neg]
    by_cases q : x < k
    · rw [if_pos q, if_neg (lt_not_le.mp q)]
    · rw [if_neg q, if_pos (Classical.byContradiction fun z => q (lt_not_le.mpr z)), if_pos n1]
      by_cases q2 : k - n ≤ x
      · rw [if_pos q2, if_neg]
        rw [iLe, ek] at q2
        rw [iLt, ex]
        omega
      · rw [if_neg q2, if_pos]
        rw [iLe, ek] at q2
        rw [iLt, ex]
        omega
  · unfold tB lB
    rw [i_sub_neg]
    by_cases q : y < k
    · rw [if_pos q, if_neg (lt_not_le.mp q)]
    · rw [if_neg q, if_pos (Classical.byContradiction fun z => q (lt_not_le.mpr z)), if_neg n0]
      by_cases q2 : k - n ≤ y
      · rw [if_pos q2, if_neg]
        rw [iLe, ek] at q2
        rw [iLt, ey, e1]
        omega
      · rw [if_neg q2]
        rw [iLe, ek] at q2
        by_cases q3 : y + n < k - 1
        · rw [if_pos q3]
        · rw [if_neg q3]
          apply Int32.toInt_inj.mp
          rw [iLt, ey, e1] at q3
          rw [ey, e1]
          omega
  · rw [i_add_neg, iLt, iLt, iLt, iLe, ek, vx, vy]
    split <;> split <;> (try split) <;> (try split) <;> omega
