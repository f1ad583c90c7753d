/-! move as a whole in the reference -/
def wayP (x : Int32) : Prop := -1048576 ≤ x.toInt ∧ x.toInt ≤ 1048576
def mvV (ns : List (List Int32)) (fs : Nat → Option Fm) (x1 x4 x5 : Int32) : Prop := (0 ≤ x5.toInt ∧ x5.toInt < 8) ∧ fAt fs x1 ≠ none ∧ (0 ≤ x4.toInt ∧ x4.toInt < ns.length)
set_option maxRecDepth 100000 in
theorem d224 {s : aS} {ns : List (List Int32)} {fs : Nat → Option Fm} (hs : SM s ns) (hn : nsOk ns) (h : MM s fs) (x1 x2 x3 x4 x5 : Int32) :
    (¬ mvV ns fs x1 x4 x5 ∧ dm224 x1 x2 x3 x4 x5 s = some (wI s 121 0 1)) ∨
    (mvV ns fs x1 x4 x5 ∧ ¬ (wayP x2 ∧ wayP x3) ∧ dm224 x1 x2 x3 x4 x5 s = some (wI s 121 0 2)) ∨
    (mvV ns fs x1 x4 x5 ∧ (wayP x2 ∧ wayP x3) ∧ ∃ h0 L s', fAt fs x1 = some (h0, L) ∧ dm224 x1 x2 x3 x4 x5 s = some s' ∧ MM s' (fsMove x1.toInt.toNat x5.toInt.toNat x2 x3 x4 (fun r c => onRf (mvM r c)) L fs) ∧ sI s' 121 0 = 0 ∧ ch (fun a k => (a = 121 ∧ k = 0) ∨ (125 ≤ a ∧ a ≤ 139)) s s') := by
  have h8 := hn.1
  have z1 : dm224_30 x1 x2 x3 x4 x5 s = some (wI s 121 0 1) := by
    unfold dm224_30 dm224_37
    rw [nx_eq]
    exact if_neg (show ¬ (1 : Int32) ≤ 0 by decide)
  have z2 : dm224_37 x1 x2 x3 x4 x5 2 s = some (wI s 121 0 2) := by
    unfold dm224_37
    rw [nx_eq]
    exact if_neg (show ¬ (2 : Int32) ≤ 0 by decide)
  have z0 : dm224_37 x1 x2 x3 x4 x5 0 s = dm224_44 5000 x1 x2 x3 x4 x5 0 (wI s 121 0 0) := by
    unfold dm224_37
    rw [nx_eq]
    exact if_pos (show (0 : Int32) ≤ 0 by decide)
  -- what the flag of the ways is
  have eW : dm224 x1 x2 x3 x4 x5 s = dm224_15 x1 x2 x3 x4 x5 (b01 (¬ (wayP x2 ∧ wayP x3))) s := by
    have a1 : x2 < -1048576 ↔ x2.toInt < -1048576 := iLt
    have a2 : 1048576 < x2 ↔ 1048576 < x2.toInt := iLt
    have a3 : x3 < -1048576 ↔ x3.toInt < -1048576 := iLt
    have a4 : x3 ≤ 1048576 ↔ x3.toInt ≤ 1048576 := iLe
    unfold dm224 dm224_12 wayP
    by_cases c1 : x2 < -1048576
    · rw [if_pos c1, b01_t]
      have := a1.mp c1
      omega
    · rw [if_neg c1]
      have c1 : ¬ x2.toInt < -1048576 := fun q => c1 (a1.mpr q)
      by_cases c2 : 1048576 < x2
      · rw [if_pos c2, b01_t]
        have := a2.mp c2
        omega
      · rw [if_neg c2]
        have c2 : ¬ 1048576 < x2.toInt := fun q => c2 (a2.mpr q)
        by_cases c3 : x3 < -1048576
        · rw [if_pos c3, b01_t]
          have := a3.mp c3
          omega
        · rw [if_neg c3]
          have c3 : ¬ x3.toInt < -1048576 := fun q => c3 (a3.mpr q)
          by_cases c4 : x3 ≤ 1048576
          · rw [if_pos c4, b01_f]
            have := a4.mp c4
            omega
          · rw [if_neg c4, b01_t]
            have c4 : ¬ x3.toInt ≤ 1048576 := fun q => c4 (a4.mpr q)
            omega
  rw [eW]
  have l1 : x5 < 0 ↔ x5.toInt < 0 := iLt
  have l2 : 7 < x5 ↔ 7 < x5.toInt := iLt
  unfold dm224_15
  by_cases c1 : x5 < 0
  · left
    rw [if_pos c1, z1]
    have := l1.mp c1
    exact ⟨fun q => by have := q.1; omega, rfl⟩
  · rw [if_neg c1]
    have c1 : ¬ x5.toInt < 0 := fun q => c1 (l1.mpr q)
    by_cases c2 : 7 < x5
    · left
      rw [if_pos c2, z1]
      have := l2.mp c2
      exact ⟨fun q => by have := q.1; omega, rfl⟩
    · rw [if_neg c2]
      have c2 : ¬ 7 < x5.toInt := fun q => c2 (l2.mpr q)
      rcases d225 h x1 with ⟨e1, e2⟩ | ⟨h0, L, e1, hx, e2, -⟩
      · left
        rw [e2]
        simp only [bu_some]
        rw [if_neg (by decide), z1]
        exact ⟨fun q => q.2.1 e1, rfl⟩
      · rw [e2, d181 hs h8]
        simp only [bu_some]
        rw [if_pos trivial]
        by_cases c3 : 0 ≤ x4.toInt ∧ x4.toInt < ns.length
        · right
          rw [b01_f (fun q => q c3), if_pos rfl]
          have hV : mvV ns fs x1 x4 x5 := ⟨by omega, (by rw [e1]; exact Option.some_ne_none _), c3⟩
          by_cases c4 : wayP x2 ∧ wayP x3
          · right
            rw [b01_f (fun q => q c4), if_pos rfl, z0]
            have hL : fs x1.toInt.toNat = some (h0, L) := by
              unfold fAt at e1
              rw [if_pos hx] at e1
              exact e1
            obtain ⟨s', k1, k2, k3⟩ := d224m (r := x2) (c := x3) (ho := x4) (f := x1.toInt.toNat) (g := x5.toInt.toNat) (h.of (ch0 s 0) (by omega)) (by omega) (by omega) hL
            rw [← ofNat_of (x := x1) (by omega), ← ofNat_of (x := x5) (by omega)] at k1
            exact ⟨hV, c4, h0, L, s', e1, k1, k2, (k3.i (by omega)).trans (by rw [sI_wI, if_pos ⟨rfl, rfl⟩]), ((ch0 s 0).mono fun a k q => by omega).trans (k3.mono fun a k q => by omega)⟩
          · left
            rw [b01_t c4, if_neg (by decide), z2]
            exact ⟨hV, c4, rfl⟩
        · left
          rw [b01_t c3, if_neg (by decide), z1]
          exact ⟨fun q => c3 q.2.2, rfl⟩
