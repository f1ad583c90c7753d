/-! same in the reference: letters -/
set_option maxRecDepth 100000 in
theorem getD_neg {l : List Int32} (h : ∀ x ∈ l, 0 ≤ x.toInt) (j : Nat) : (0 ≤ l.getD j (-1)) ↔ j < l.length := by
  by_cases q : j < l.length
  · rw [getD_in q]
    exact ⟨fun _ => q, fun _ => iLe.mpr (h _ (List.getElem_mem q))⟩
  · rw [getD_out (by omega)]
    exact ⟨fun z => absurd z (by decide), fun z => absurd z q⟩
set_option maxRecDepth 100000 in
theorem d248c {s : aS} {x1 x2 x4 x5 x6 : Int32} {a b : List Int32} {k31 : Int32 → Int32 → Int32 → Int32 → aS → Option (Int32 × aS)} (ha : ∀ k : Int32, 0 ≤ k.toInt → dm247 x1 x5 k s = some (a.getD k.toInt.toNat (-1))) (hb : ∀ k : Int32, 0 ≤ k.toInt → dm247 x2 x6 k s = some (b.getD k.toInt.toNat (-1))) (pa : ∀ x ∈ a, 0 ≤ x.toInt) (pb : ∀ x ∈ b, 0 ≤ x.toInt) (la : a.length ≤ 256) (lb : b.length ≤ 256) : ∀ (m j n : Nat), (a.length ≤ j + m ∧ b.length ≤ j + m) → j + m ≤ 300 → m + 1 < n → dm248_73 k31 n x1 x2 1 x4 x5 x6 (Int32.ofNat j) s = dm248_104 k31 x1 x2 (b01 (a.drop j = b.drop j)) x4 s := by
  intro m
  have zero : ∀ (n j : Nat), dm248_73 k31 (n + 1) x1 x2 0 x4 x5 x6 (Int32.ofNat j) s = dm248_104 k31 x1 x2 0 x4 s := fun n j => by
    rw [dm248_73, if_pos rfl]
  induction m with
  | zero =>
    intro j n h1 h2 hn
    obtain ⟨n, rfl⟩ : ∃ q, n = q + 1 := ⟨n - 1, by omega⟩
    have ej : (Int32.ofNat j).toInt = j := iOfNat (by omega)
    rw [dm248_73, if_neg (by decide), ha _ (by omega), hb _ (by omega), ej]
    simp only [bu_some]
    rw [if_neg (fun z => by have := (getD_neg pa _).mp z; omega), if_pos (lt_not_le.mpr fun z => by have := (getD_neg pb _).mp z; omega), b01_t]
    rw [List.drop_eq_nil_of_le (by omega), List.drop_eq_nil_of_le (by omega)]
  | succ m ih =>
    intro j n h1 h2 hn
    obtain ⟨n, rfl⟩ : ∃ q, n = q + 1 := ⟨n - 1, by omega⟩
    have ej : (Int32.ofNat j).toInt = j := iOfNat (by omega)
    have en : ((j : Int)).toNat = j := by omega
    have e87 : (j < a.length ∨ j < b.length) → dm248_87 k31 (dm248_73 k31 n) x1 x2 x4 x5 x6 (Int32.ofNat j) s = dm248_104 k31 x1 x2 (b01 (a.drop j = b.drop j)) x4 s := by
      intro hor
      unfold dm248_87 dm248_101
      rw [ha _ (by omega), hb _ (by omega), ej, en, ofNat_succ (by omega)]
      simp only [bu_some]
      by_cases q : a.getD j (-1) = b.getD j (-1)
      · rw [if_pos q, ih (j + 1) n (by omega) (by omega) (by omega)]
        have both : j < a.length ∧ j < b.length := by
          have g1 := getD_neg pa j
          have g2 := getD_neg pb j
          rw [q] at g1
          rcases hor with z | z
          · exact ⟨z, g2.mp (g1.mpr z)⟩
          · exact ⟨g1.mp (g2.mpr z), z⟩
        rw [getD_in both.1, getD_in both.2] at q
        rw [List.drop_eq_getElem_cons both.1, List.drop_eq_getElem_cons both.2]
        congr 1
        exact b01_c ⟨fun z => by rw [q, z], fun z => (List.cons.inj z).2⟩
      · rw [if_neg q]
        obtain ⟨n, rfl⟩ : ∃ q, n = q + 1 := ⟨n - 1, by omega⟩
        rw [zero, b01_f]
        intro z
        have z2 := congrArg (fun l => List.getD l 0 (-1)) z
        simp only [List.getD, List.getElem?_drop, Nat.add_zero] at z2
        exact q z2
    rw [dm248_73, if_neg (by decide), ha _ (by omega), hb _ (by omega), ej, en]
    simp only [bu_some]
    by_cases q1 : j < a.length
    · rw [if_pos ((getD_neg pa j).mpr q1)]
      exact e87 (Or.inl q1)
    · rw [if_neg (fun z => q1 ((getD_neg pa j).mp z))]
      by_cases q2 : j < b.length
      · rw [if_neg (fun z => lt_not_le.mp z ((getD_neg pb j).mpr q2))]
        exact e87 (Or.inr q2)
      · rw [if_pos (lt_not_le.mpr fun z => q2 ((getD_neg pb j).mp z)), b01_t]
        rw [List.drop_eq_nil_of_le (by omega), List.drop_eq_nil_of_le (by omega)]
