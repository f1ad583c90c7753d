/-! moved nodes are the same -/
set_option maxRecDepth 100000 in
theorem okW_0 {v : Int32} {w : Nat} : okW v w = 0 ↔ bey v (lastW w) := by
  unfold okW
  rw [b01_ne]
  exact ⟨fun q => Classical.byContradiction q, fun q z => z q⟩
set_option maxRecDepth 100000 in
theorem mv_1 {r c : Int32} {d : Nd} (h : 0 ≤ (d 7).toInt ∧ (d 7).toInt ≤ 15) : setN d 3 (cvW r c d 3) = mv1 r d := by
  unfold mv1 cvW
  have q := and_le0 (y := 1) h (Or.inl rfl)
  have b : bitC d 3 = 1 := rfl
  rw [b]
  by_cases z : (d 7 &&& 1) = 0
  · rw [if_pos z, if_pos (q.mpr z)]
    rfl
  · rw [if_neg z, if_neg (fun y => z (q.mp y))]
set_option maxRecDepth 100000 in
theorem mv_2 {r c : Int32} {d : Nd} (h : 0 ≤ (d 7).toInt ∧ (d 7).toInt ≤ 15) : setN d 4 (cvW r c d 4) = mv2 c d := by
  unfold mv2 cvW
  have q := and_le0 (y := 2) h (Or.inr (Or.inl rfl))
  have b : bitC d 4 = 2 := rfl
  rw [b]
  by_cases z : (d 7 &&& 2) = 0
  · rw [if_pos z, if_pos (q.mpr z)]
    rfl
  · rw [if_neg z, if_neg (fun y => z (q.mp y))]
set_option maxRecDepth 100000 in
theorem mv_3 {r c : Int32} {d : Nd} (h : 0 ≤ (d 7).toInt ∧ (d 7).toInt ≤ 15) (h4 : d 0 = 4 → d 3 = cvW r c d 5) : setN d 5 (cvW r c d 5) = mv3 r d := by
  unfold mv3
  by_cases k : d 0 = 4
  · rw [if_pos k, h4 k]
  · rw [if_neg k]
    unfold cvW
    have q := and_le0 (y := 4) h (Or.inr (Or.inr (Or.inl rfl)))
    have b : bitC d 5 = 4 := by
      show (if d 0 = 4 then (1 : Int32) else 4) = 4
      rw [if_neg k]
    rw [b]
    by_cases z : (d 7 &&& 4) = 0
    · rw [if_pos z, if_pos (q.mpr z)]
      rfl
    · rw [if_neg z, if_neg (fun y => z (q.mp y))]
set_option maxRecDepth 100000 in
theorem mv_4 {r c : Int32} {d : Nd} (h : 0 ≤ (d 7).toInt ∧ (d 7).toInt ≤ 15) (h4 : d 0 = 4 → d 4 = cvW r c d 6) : setN d 6 (cvW r c d 6) = mv4 c d := by
  unfold mv4
  by_cases k : d 0 = 4
  · rw [if_pos k, h4 k]
  · rw [if_neg k]
    unfold cvW
    have q := and_le0 (y := 8) h (Or.inr (Or.inr (Or.inr rfl)))
    have b : bitC d 6 = 8 := by
      show (if d 0 = 4 then (2 : Int32) else 8) = 8
      rw [if_neg k]
    rw [b]
    by_cases z : (d 7 &&& 8) = 0
    · rw [if_pos z, if_pos (q.mpr z)]
      rfl
    · rw [if_neg z, if_neg (fun y => z (q.mp y))]
set_option maxRecDepth 100000 in
theorem lo_eq {d : Nd} (h : d 1 = 0) : loM d = loF := by
  funext w
  unfold loM
  by_cases q : w = 1
  · rw [if_pos q, h, q]
    rfl
  · rw [if_neg q]
set_option maxRecDepth 100000 in
theorem setN_s {d : Nd} {w : Nat} {v : Int32} : setN d w v w = v := if_pos rfl
set_option maxRecDepth 100000 in
theorem setN_n {d : Nd} {w k : Nat} {v : Int32} (h : k ≠ w) : setN d w v k = d k := if_neg h
set_option maxRecDepth 100000 in
theorem mv1_n {r : Int32} {d : Nd} {k : Nat} (h : k ≠ 3) : mv1 r d k = d k := setN_n h
set_option maxRecDepth 100000 in
theorem mv2_n {c : Int32} {d : Nd} {k : Nat} (h : k ≠ 4) : mv2 c d k = d k := setN_n h
set_option maxRecDepth 100000 in
theorem mv3_n {r : Int32} {d : Nd} {k : Nat} (h : k ≠ 5) : mv3 r d k = d k := setN_n h
set_option maxRecDepth 100000 in
theorem mv4_n {c : Int32} {d : Nd} {k : Nat} (h : k ≠ 6) : mv4 c d k = d k := setN_n h
set_option maxRecDepth 100000 in
theorem last3 : lastW 3 = 1048576 := if_pos (Or.inl rfl)
set_option maxRecDepth 100000 in
theorem last4 : lastW 4 = 16384 := if_neg (by omega)
set_option maxRecDepth 100000 in
theorem last5 : lastW 5 = 1048576 := if_pos (Or.inr rfl)
set_option maxRecDepth 100000 in
theorem last6 : lastW 6 = 16384 := if_neg (by omega)
set_option maxRecDepth 100000 in
theorem mv_end {d e : Nd} (o1 : e 1 = 0) (o7 : 0 ≤ (e 7).toInt ∧ (e 7).toInt ≤ 15) (o0 : e 0 = d 0) (c53 : d 0 = 4 → e 5 = e 3) (c64 : d 0 = 4 → e 6 = e 4) : (if okW (e 3) 3 = 0 then loF else if okW (e 4) 4 = 0 then loF else if okW (e 5) 5 = 0 then loF else if okW (e 6) 6 = 0 then loF else orC (orR e)) = mvE e := by
  have z3 := okW_0 (v := e 3) (w := 3)
  have z4 := okW_0 (v := e 4) (w := 4)
  have z5 := okW_0 (v := e 5) (w := 5)
  have z6 := okW_0 (v := e 6) (w := 6)
  rw [last3] at z3
  rw [last4] at z4
  rw [last5] at z5
  rw [last6] at z6
  have hB : mvB e ↔ bey (e 3) 1048576 ∨ bey (e 5) 1048576 ∨ bey (e 4) 16384 ∨ bey (e 6) 16384 := Iff.rfl
  unfold mvE
  generalize mvB e = B at hB ⊢
  generalize bey (e 3) 1048576 = p3 at z3 hB
  generalize bey (e 4) 16384 = p4 at z4 hB
  generalize bey (e 5) 1048576 = p5 at z5 hB
  generalize bey (e 6) 16384 = p6 at z6 hB
  by_cases q3 : p3
  · rw [if_pos (z3.mpr q3), b01_t (hB.mpr (Or.inl q3)), if_pos rfl, lo_eq o1]
  · rw [if_neg (fun z => q3 (z3.mp z))]
    by_cases q4 : p4
    · rw [if_pos (z4.mpr q4), b01_t (hB.mpr (Or.inr (Or.inr (Or.inl q4)))), if_pos rfl, lo_eq o1]
    · rw [if_neg (fun z => q4 (z4.mp z))]
      by_cases q5 : p5
      · rw [if_pos (z5.mpr q5), b01_t (hB.mpr (Or.inr (Or.inl q5))), if_pos rfl, lo_eq o1]
      · rw [if_neg (fun z => q5 (z5.mp z))]
        by_cases q6 : p6
        · rw [if_pos (z6.mpr q6), b01_t (hB.mpr (Or.inr (Or.inr (Or.inr q6)))), if_pos rfl, lo_eq o1]
        · rw [if_neg (fun z => q6 (z6.mp z))]
          have hN : ¬ B := fun z => by
            rcases hB.mp z with q | q | q | q
            · exact q3 q
            · exact q5 q
            · exact q4 q
            · exact q6 q
          rw [b01_f hN, if_neg (by decide)]
          by_cases k : d 0 = 4
          · rw [if_pos (o0.trans k)]
            unfold orC orR
            rw [if_pos (show e 3 ≤ e 5 by rw [c53 k, iLe]; exact Int.le_refl _), if_pos (show e 4 ≤ e 6 by rw [c64 k, iLe]; exact Int.le_refl _)]
          · rw [if_neg (fun z => k (o0.symm.trans z)), or_eq o7]
set_option maxRecDepth 100000 in
theorem mv_k5 {r c : Int32} {d : Nd} (h7 : 0 ≤ (d 7).toInt ∧ (d 7).toInt ≤ 15) (k : d 0 = 4) (h : d 5 = d 3) : mv2 c (mv1 r d) 3 = cvW r c (mv2 c (mv1 r d)) 5 := by
  have b : bitC (mv2 c (mv1 r d)) 5 = 1 := by
    unfold bitC
    rw [if_neg (by omega), if_neg (by omega), if_pos rfl, mv2_n (by omega), mv1_n (by omega), if_pos k]
  have q := and_le0 (y := 1) h7 (Or.inl rfl)
  unfold cvW
  rw [b, mv2_n (by omega), mv2_n (by omega), mv2_n (by omega), mv1_n (k := 7) (by omega), mv1_n (k := 5) (by omega), h, if_pos (show 5 = 3 ∨ 5 = 5 from Or.inr rfl)]
  unfold mv1
  rw [setN_s]
  by_cases z : (d 7 &&& 1) = 0
  · rw [if_pos z, if_pos (q.mpr z)]
  · rw [if_neg z, if_neg (fun y => z (q.mp y))]
set_option maxRecDepth 100000 in
theorem mv_k6 {r c : Int32} {d : Nd} (h7 : 0 ≤ (d 7).toInt ∧ (d 7).toInt ≤ 15) (k : d 0 = 4) (h : d 6 = d 4) : mv3 r (mv2 c (mv1 r d)) 4 = cvW r c (mv3 r (mv2 c (mv1 r d))) 6 := by
  have b : bitC (mv3 r (mv2 c (mv1 r d))) 6 = 2 := by
    unfold bitC
    rw [if_neg (by omega), if_neg (by omega), if_neg (by omega), mv3_n (by omega), mv2_n (by omega), mv1_n (by omega), if_pos k]
  have q := and_le0 (y := 2) h7 (Or.inr (Or.inl rfl))
  unfold cvW
  rw [b, mv3_n (by omega), mv3_n (by omega), mv3_n (by omega), mv2_n (k := 7) (by omega), mv2_n (k := 6) (by omega), mv1_n (k := 7) (by omega), mv1_n (k := 6) (by omega), h, if_neg (show ¬ (6 = 3 ∨ 6 = 5) by omega)]
  unfold mv2
  rw [setN_s, mv1_n (k := 7) (by omega), mv1_n (k := 4) (by omega)]
  by_cases z : (d 7 &&& 2) = 0
  · rw [if_pos z, if_pos (q.mpr z)]
  · rw [if_neg z, if_neg (fun y => z (q.mp y))]
set_option maxRecDepth 100000 in
theorem mv_c53 {r c : Int32} {d : Nd} (k : d 0 = 4) : mv4 c (mv3 r (mv2 c (mv1 r d))) 5 = mv4 c (mv3 r (mv2 c (mv1 r d))) 3 := by
  rw [mv4_n (by omega), mv4_n (by omega), mv3_n (k := 3) (by omega)]
  unfold mv3
  rw [setN_s, if_pos]
  rw [mv2_n (by omega), mv1_n (by omega)]
  exact k
set_option maxRecDepth 100000 in
theorem mv_c64 {r c : Int32} {d : Nd} (k : d 0 = 4) : mv4 c (mv3 r (mv2 c (mv1 r d))) 6 = mv4 c (mv3 r (mv2 c (mv1 r d))) 4 := by
  rw [mv4_n (k := 4) (by omega)]
  unfold mv4
  rw [setN_s, if_pos]
  rw [mv3_n (by omega), mv2_n (by omega), mv1_n (by omega)]
  exact k
set_option maxRecDepth 100000 in
theorem mv_eq {r c : Int32} {d : Nd} (h : ndR d) : mvC r c d = mvM r c d := by
  obtain ⟨hk, h7, h1, h4⟩ := h
  have e71 : (mv1 r d) 7 = d 7 := mv1_n (by omega)
  have e72 : (mv2 c (mv1 r d)) 7 = d 7 := (mv2_n (by omega)).trans e71
  have e73 : (mv3 r (mv2 c (mv1 r d))) 7 = d 7 := (mv3_n (by omega)).trans e72
  have e74 : (mv4 c (mv3 r (mv2 c (mv1 r d)))) 7 = d 7 := (mv4_n (by omega)).trans e73
  have e01 : (mv1 r d) 0 = d 0 := mv1_n (by omega)
  have e02 : (mv2 c (mv1 r d)) 0 = d 0 := (mv2_n (by omega)).trans e01
  have e03 : (mv3 r (mv2 c (mv1 r d))) 0 = d 0 := (mv3_n (by omega)).trans e02
  have e04 : (mv4 c (mv3 r (mv2 c (mv1 r d)))) 0 = d 0 := (mv4_n (by omega)).trans e03
  have a1 := mv_1 (r := r) (c := c) h7
  have v3 : cvW r c d 3 = mv1 r d 3 := by rw [← a1, setN_s]
  have a2 := mv_2 (r := r) (c := c) (d := mv1 r d) (by rw [e71]; exact h7)
  have v4 : cvW r c (mv1 r d) 4 = mv2 c (mv1 r d) 4 := by rw [← a2, setN_s]
  have a3 := mv_3 (r := r) (c := c) (d := mv2 c (mv1 r d)) (by rw [e72]; exact h7) (fun k => mv_k5 h7 (e02.symm.trans k) (h4 (e02.symm.trans k)).1)
  have v5 : cvW r c (mv2 c (mv1 r d)) 5 = mv3 r (mv2 c (mv1 r d)) 5 := by rw [← a3, setN_s]
  have a4 := mv_4 (r := r) (c := c) (d := mv3 r (mv2 c (mv1 r d))) (by rw [e73]; exact h7) (fun k => mv_k6 h7 (e03.symm.trans k) (h4 (e03.symm.trans k)).2)
  have v6 : cvW r c (mv3 r (mv2 c (mv1 r d))) 6 = mv4 c (mv3 r (mv2 c (mv1 r d))) 6 := by rw [← a4, setN_s]
  have o5 : mv4 c (mv3 r (mv2 c (mv1 r d))) 5 = mv3 r (mv2 c (mv1 r d)) 5 := mv4_n (by omega)
  have o4 : mv4 c (mv3 r (mv2 c (mv1 r d))) 4 = mv2 c (mv1 r d) 4 := (mv4_n (by omega)).trans (mv3_n (by omega))
  have o3 : mv4 c (mv3 r (mv2 c (mv1 r d))) 3 = mv1 r d 3 := (mv4_n (by omega)).trans ((mv3_n (by omega)).trans (mv2_n (by omega)))
  have o1 : mv4 c (mv3 r (mv2 c (mv1 r d))) 1 = 0 := (mv4_n (by omega)).trans ((mv3_n (by omega)).trans ((mv2_n (by omega)).trans ((mv1_n (by omega)).trans h1)))
  unfold mvC mvM
  rw [a1, a2, a3, a4, v3, v4, v5, v6, ← o5, ← o4, ← o3]
  exact mv_end o1 (by rw [e74]; exact h7) e04 mv_c53 mv_c64
