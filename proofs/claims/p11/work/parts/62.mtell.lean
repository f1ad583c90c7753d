/-! the reference tells a name -/
set_option maxRecDepth 100000 in
theorem getD_in {l : List Int32} {j : Nat} {d : Int32} (h : j < l.length) : l.getD j d = l[j] := by simp [List.getD, List.getElem?_eq_getElem h]
set_option maxRecDepth 100000 in
theorem getD_out {l : List Int32} {j : Nat} {d : Int32} (h : l.length ≤ j) : l.getD j d = d := by simp [List.getD, List.getElem?_eq_none h]
set_option maxRecDepth 100000 in
theorem d250 {s : aS} {ns : List (List Int32)} (hs : SM s ns) (hn : nsOk ns) (x y : Int32) :
    (¬ (0 ≤ x.toInt ∧ x.toInt < ns.length) ∧ dm250 x y s = some (0, wI s 121 0 1)) ∨
    ((0 ≤ x.toInt ∧ x.toInt < ns.length) ∧ dm250 x y s = some (if y.toInt < 0 then -1 else (ns.getD x.toInt.toNat []).getD y.toInt.toNat (-1), wI s 121 0 0)) := by
  have h8 := hn.1
  unfold dm250
  rw [d181 hs h8]
  simp only [bu_some]
  unfold dm250_8
  by_cases hx : 0 ≤ x.toInt ∧ x.toInt < ns.length
  · right
    refine ⟨hx, ?_⟩
    have hi : x.toInt.toNat < ns.length := by omega
    have hl := (hn.2 _ (List.getElem_mem hi)).2.1
    have ex : x = Int32.ofNat x.toInt.toNat := by
      apply Int32.toInt_inj.mp
      rw [iOfNat (by omega)]
      omega
    rw [b01_f (fun q => q hx), if_pos rfl, nx_eq, if_pos (show sI (wI s 121 0 0) 121 0 ≤ 0 from (by decide : (0 : Int32) ≤ 0)), getD_nm hi]
    unfold dm250_22
    by_cases hy : y.toInt < 0
    · rw [if_pos hy, if_pos (show y < 0 by rw [iLt]; exact hy)]
    · rw [if_neg hy, if_neg (show ¬ y < 0 by rw [iLt]; exact hy)]
      have hr2 := iRange y
      have ey : y = Int32.ofNat y.toInt.toNat := by
        apply Int32.toInt_inj.mp
        rw [iOfNat (by omega)]
        omega
      obtain ⟨a1, a2⟩ := hs.2 _ hi
      have hx0 : ch (fun a k => a = 121 ∧ k = 0) s (wI s 121 0 0) := (ch.refl _ s).wI ⟨rfl, rfl⟩
      have a1 : sI (wI s 121 0 0) 123 (jN x) = Int32.ofNat (ns[x.toInt.toNat]).length := (hx0.i (by omega)).trans a1
      rw [if_pos (show aB x 8 by rw [aB_iff]; omega), a1]
      by_cases hq : y.toInt.toNat < (ns[x.toInt.toNat]).length
      · have el : (32 * x) + y = Int32.ofNat (32 * x.toInt.toNat + y.toInt.toNat) := by
          conv => lhs; rw [ex, ey]
          exact iLin (by omega) (by omega)
        rw [if_pos (show y < Int32.ofNat (ns[x.toInt.toNat]).length by rw [iLt, iOfNat (by omega)]; omega), el, if_pos (by rw [aB_iff, iOfNat (by omega)]; omega), jN_of (by omega), hx0.i (by omega), a2 _ hq, getD_in hq]
      · rw [if_neg (show ¬ y < Int32.ofNat (ns[x.toInt.toNat]).length by rw [iLt, iOfNat (by omega)]; omega), getD_out (by omega)]
  · left
    refine ⟨hx, ?_⟩
    rw [b01_t hx, if_neg (by decide), nx_eq]
    exact if_neg (show ¬ (1 : Int32) ≤ 0 by decide)
