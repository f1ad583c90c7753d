/-! columns, rows and corners: both write the same -/
set_option maxRecDepth 100000 in
theorem de_lo {x : Int32} {m : Nat} (hm : m ≤ 8) (h : x.toInt < ((10 ^ m : Nat) : Int)) : deC x (m + 1) = deC x m := by
  have hp := pw_n hm
  show (if x < Int32.ofNat (10 ^ m) then [] else [dgC x m]) ++ deC x m = deC x m
  rw [if_pos (by rw [iLt, iOfNat (by omega)]; exact h)]
  rfl
set_option maxRecDepth 100000 in
theorem de_hi {x : Int32} : ∀ (m : Nat), m ≤ 8 → (1 ≤ m → ((10 ^ (m - 1) : Nat) : Int) ≤ x.toInt) → deC x m = deM x m
  | 0, _, _ => rfl
  | m + 1, h8, h => by
    have hp := pw_n (m := m) (by omega)
    have h0 : ((10 ^ m : Nat) : Int) ≤ x.toInt := h (by omega)
    show (if x < Int32.ofNat (10 ^ m) then [] else [dgC x m]) ++ deC x m = dgC x m :: deM x m
    rw [if_neg (by rw [iLt, iOfNat (by omega)]; omega), de_hi m (by omega) (fun z => by
      have : 10 ^ (m - 1) ≤ 10 ^ m := Nat.pow_le_pow_right (by decide) (by omega)
      omega)]
    rfl
set_option maxRecDepth 100000 in
theorem de_eq {x : Int32} (hx : 1 ≤ x.toInt ∧ x.toInt ≤ 1048576) : deC x 7 = deM x (lnX x) := by
  obtain ⟨b1, b2, b3, b4⟩ := lnX_b (x := x) (by omega)
  have up : ∀ d m, m + d = 7 → lnX x ≤ m → deC x 7 = deC x m := by
    intro d
    induction d with
    | zero =>
      intro m h1 h2
      rw [show m = 7 by omega]
    | succ d ih =>
      intro m h1 h2
      have hle : 10 ^ lnX x ≤ 10 ^ m := Nat.pow_le_pow_right (by decide) h2
      rw [ih (m + 1) (by omega) (by omega), de_lo (by omega) (by omega)]
  rw [up (7 - lnX x) (lnX x) (by omega) (Nat.le_refl _)]
  refine de_hi _ (by omega) (fun z => ?_)
  by_cases q : 2 ≤ lnX x
  · exact b4 q
  · rw [show lnX x = 1 by omega]
    show (1 : Int) ≤ x.toInt
    omega
set_option maxRecDepth 100000 in
theorem co_eq {x : Int32} (hx : 1 ≤ x.toInt ∧ x.toInt ≤ 16384) : coC x = coM x := by
  have s1 : (x - 1).toInt = x.toInt - 1 := iSub (y := 1) (by show _ ≤ x.toInt - 1; omega) (by show x.toInt - 1 ≤ _; omega)
  have s26 : (x - 1) - 26 = x - 27 := by
    rw [iEq, iSub (y := 26) (by rw [s1]; show _ ≤ x.toInt - 1 - 26; omega) (by rw [s1]; show x.toInt - 1 - 26 ≤ _; omega), s1, iSub (y := 27) (by show _ ≤ x.toInt - 27; omega) (by show x.toInt - 27 ≤ _; omega)]
    show x.toInt - 1 - 26 = x.toInt - 27
    omega
  have s27 : (x - 27).toInt = x.toInt - 27 := iSub (y := 27) (by show _ ≤ x.toInt - 27; omega) (by show x.toInt - 27 ≤ _; omega)
  have s703 : (x - 27) - 676 = x - 703 := by
    rw [iEq, iSub (y := 676) (by rw [s27]; show _ ≤ x.toInt - 27 - 676; omega) (by rw [s27]; show x.toInt - 27 - 676 ≤ _; omega), s27, iSub (y := 703) (by show _ ≤ x.toInt - 703; omega) (by show x.toInt - 703 ≤ _; omega)]
    show x.toInt - 27 - 676 = x.toInt - 703
    omega
  have t703 : (x - 703).toInt = x.toInt - 703 := iSub (y := 703) (by show _ ≤ x.toInt - 703; omega) (by show x.toInt - 703 ≤ _; omega)
  unfold coC coM
  rw [s26, s703]
  have a1 : (x - 1) < 702 ↔ x ≤ 702 := by
    rw [iLt, iLe, s1]
    show x.toInt - 1 < 702 ↔ x.toInt ≤ 702
    omega
  have a2 : (x - 1) < 26 ↔ x ≤ 26 := by
    rw [iLt, iLe, s1]
    show x.toInt - 1 < 26 ↔ x.toInt ≤ 26
    omega
  have e2 : (if (x - 1) < 26 then ([] : List Int32) else [65 + (((x - 27) / 26) - ((x - 27) / 26) / 26 * 26)]) = (if x ≤ 26 then [] else [65 + (((x - 27) / 26) - ((x - 27) / 26) / 26 * 26)]) := by
    by_cases c : x ≤ 26
    · rw [if_pos c, if_pos (a2.mpr c)]
    · rw [if_neg c, if_neg (fun z => c (a2.mp z))]
  have e1 : (if (x - 1) < 702 then ([] : List Int32) else [65 + ((x - 703) / 676)]) = (if x ≤ 702 then [] else [(64 + ((x - 703) / 676)) + 1]) := by
    by_cases c : x ≤ 702
    · rw [if_pos c, if_pos (a1.mpr c)]
    · rw [if_neg c, if_neg (fun z => c (a1.mp z))]
      have hc : ¬ x.toInt ≤ 702 := fun z => c (iLe.mpr z)
      have d : ((x - 703) / 676).toInt = (x.toInt - 703) / 676 := by
        rw [iDiv (y := 676) (by omega) (by decide), t703]
        rfl
      have hd : 0 ≤ (x.toInt - 703) / 676 ∧ (x.toInt - 703) / 676 ≤ 100 := by omega
      have p64 : (64 + ((x - 703) / 676)).toInt = 64 + (x.toInt - 703) / 676 := by
        rw [iAdd (x := 64) (by rw [d]; show _ ≤ 64 + (x.toInt - 703) / 676; omega) (by rw [d]; show 64 + (x.toInt - 703) / 676 ≤ _; omega), d]
        rfl
      have : 65 + ((x - 703) / 676) = (64 + ((x - 703) / 676)) + 1 := by
        rw [iEq, iAdd (x := 65) (by rw [d]; show _ ≤ 65 + (x.toInt - 703) / 676; omega) (by rw [d]; show 65 + (x.toInt - 703) / 676 ≤ _; omega), d, iAdd (y := 1) (by rw [p64]; show _ ≤ 64 + (x.toInt - 703) / 676 + 1; omega) (by rw [p64]; show 64 + (x.toInt - 703) / 676 + 1 ≤ _; omega), p64]
        show 65 + (x.toInt - 703) / 676 = 64 + (x.toInt - 703) / 676 + 1
        omega
      rw [this]
  rw [e1, e2]
set_option maxRecDepth 100000 in
theorem fl_a : ∀ f ∈ List.range 16, (((Int32.ofNat f) &&& 2) = 0 ↔ (((Int32.ofNat f) &&& 3) &&& 2) ≤ 0) ∧ (((Int32.ofNat f) &&& 1) = 0 ↔ (((Int32.ofNat f) &&& 3) &&& 1) ≤ 0) ∧ (((Int32.ofNat f / 4) &&& 2) = 0 ↔ (((Int32.ofNat f) >>> ((2 : Int32) &&& 31)) &&& 2) ≤ 0) ∧ (((Int32.ofNat f / 4) &&& 1) = 0 ↔ (((Int32.ofNat f) >>> ((2 : Int32) &&& 31)) &&& 1) ≤ 0) := by decide
set_option maxRecDepth 100000 in
theorem ite_i {p q : Prop} [Decidable p] [Decidable q] (h : p ↔ q) (a b : List Int32) : (if p then a else b) = if q then a else b := by
  by_cases c : p
  · rw [if_pos c, if_pos (h.mp c)]
  · rw [if_neg c, if_neg (fun z => c (h.mpr z))]
set_option maxRecDepth 100000 in
theorem cr_eq {w c f : Int32} (hw : 1 ≤ w.toInt ∧ w.toInt ≤ 1048576) (hc : 1 ≤ c.toInt ∧ c.toInt ≤ 16384) (hf : 0 ≤ f.toInt ∧ f.toInt ≤ 15) : crC w c f = crM w c (f &&& 3) ∧ crC w c (f / 4) = crM w c (f >>> ((2 : Int32) &&& 31)) := by
  have ef := ofNat_of (x := f) hf.1
  obtain ⟨a1, a2, a3, a4⟩ := fl_a f.toInt.toNat (List.mem_range.mpr (by omega))
  rw [← ef] at a1 a2 a3 a4
  unfold crC crM
  rw [de_eq hw, co_eq hc]
  exact ⟨by rw [ite_i a1, ite_i a2], by rw [ite_i a3, ite_i a4]⟩
