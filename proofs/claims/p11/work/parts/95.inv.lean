/-! what holds of every node, kept by drop, move and shift -/
def ndOk (d : Nd) : Prop := (-1 ≤ (d 2).toInt ∧ (d 2).toInt ≤ 7) ∧ (0 ≤ (d 7).toInt ∧ (d 7).toInt ≤ 15) ∧ (¬ isRf d → d 2 = -1) ∧ (isRf d → d 1 = 0 ∧ rgP (d 3) 1048576 ∧ rgP (d 5) 1048576 ∧ (d 3).toInt ≤ (d 5).toInt ∧ rgP (d 4) 16384 ∧ rgP (d 6) 16384 ∧ (d 4).toInt ≤ (d 6).toInt) ∧ (d 0 = 4 → d 5 = d 3 ∧ d 6 = d 4)
set_option maxRecDepth 100000 in
theorem ndOk.s {d : Nd} (h : ndOk d) : ndS d := ⟨h.1.1, h.2.2.2.1⟩
set_option maxRecDepth 100000 in
theorem ndOk.r {d : Nd} (h : ndOk d) (q : isRf d) : ndR d := ⟨q, h.2.1, (h.2.2.2.1 q).1, h.2.2.2.2⟩
set_option maxRecDepth 100000 in
theorem ndOk.c {d : Nd} {x : Int32} (h : ndOk d) (hx : 0 ≤ x.toInt) (q : d 2 = x) : d 1 = 0 := by
  by_cases z : isRf d
  · exact (h.2.2.2.1 z).1
  · have := h.2.2.1 z
    rw [q, iEq] at this
    have : x.toInt = -1 := this
    omega
set_option maxRecDepth 100000 in
theorem lo_ok : ndOk loF := by
  refine ⟨by decide, by decide, fun _ => rfl, ?_, ?_⟩
  · rintro (q | q)
    · exact absurd q (by decide)
    · exact absurd q (by decide)
  · intro q
    exact absurd q (by decide)
set_option maxRecDepth 100000 in
theorem ls_ok {x : Int32} {d : Nd} (hx : 0 ≤ x.toInt) (h : ndOk d) : ndOk (lsN x d) := by
  unfold lsN
  by_cases q1 : d 2 = x
  · rw [if_pos q1]
    exact lo_ok
  · rw [if_neg q1]
    by_cases q2 : d 2 ≤ x
    · rw [if_pos q2]
      exact h
    · rw [if_neg q2]
      obtain ⟨h1, h2, h3, h4, h5⟩ := h
      rw [iLe] at q2
      have e : (d 2 - 1).toInt = (d 2).toInt - 1 := iSub (y := 1) (by show _ ≤ (d 2).toInt - 1; omega) (by show (d 2).toInt - 1 ≤ _; omega)
      refine ⟨?_, h2, fun z => ?_, h4, h5⟩
      · show -1 ≤ (d 2 - 1).toInt ∧ (d 2 - 1).toInt ≤ 7
        rw [e]
        omega
      · exfalso
        have := h3 z
        rw [iEq] at this
        have : (d 2).toInt = -1 := this
        omega
set_option maxRecDepth 100000 in
/-- the two numbers of a shifted node -/
theorem sh_rg {x y k n m : Int32} (hm : m.toInt ≤ 1048576) (hx : rgP x m) (hy : rgP y m) (hxy : x.toInt ≤ y.toInt) (hk : rgP k m) (hn : wayP n) (hl : ¬ (lB y k n m < fB x k n ∨ ¬ fB x k n ≤ m)) : rgP (fB x k n) m ∧ rgP (lB y k n m) m ∧ (fB x k n).toInt ≤ (lB y k n m).toInt ∧ (x = y → lB y k n m = fB x k n) := by
  unfold rgP wayP at *
  have ex : (x + n).toInt = x.toInt + n.toInt := iAdd (by omega) (by omega)
  have ey : (y + n).toInt = y.toInt + n.toInt := iAdd (by omega) (by omega)
  have ek : (k - n).toInt = k.toInt - n.toInt := iSub (by omega) (by omega)
  have e1 : (k - 1).toInt = k.toInt - 1 := iSub (y := 1) (by show _ ≤ k.toInt - 1; omega) (by show k.toInt - 1 ≤ _; omega)
  have n0 : 0 ≤ n ↔ 0 ≤ n.toInt := iLe
  have n1 : n < 0 ↔ n.toInt < 0 := iLt
  have vx : (fB x k n).toInt = if k.toInt ≤ x.toInt then (if n.toInt < 0 then (if k.toInt - n.toInt ≤ x.toInt then x.toInt + n.toInt else k.toInt) else x.toInt + n.toInt) else x.toInt := by
    unfold fB
    by_cases q : k ≤ x
    · rw [if_pos q, if_pos (iLe.mp q)]
      by_cases q1 : n < 0
      · rw [if_pos q1, if_pos (n1.mp q1)]
        by_cases q2 : k - n ≤ x
        · rw [if_pos q2, if_pos (by rw [← ek]; exact iLe.mp q2), ex]
        · rw [if_neg q2, if_neg (fun z => q2 (iLe.mpr (by rw [ek]; exact z)))]
      · rw [if_neg q1, if_neg (fun z => q1 (n1.mpr z)), ex]
    · rw [if_neg q, if_neg (fun z => q (iLe.mpr z))]
  have vy : (lB y k n m).toInt = if k.toInt ≤ y.toInt then (if 0 ≤ n.toInt then (if y.toInt + n.toInt ≤ m.toInt then y.toInt + n.toInt else m.toInt) else (if k.toInt - n.toInt ≤ y.toInt then y.toInt + n.toInt else k.toInt - 1)) else y.toInt := by
    unfold lB
    by_cases q : k ≤ y
    · rw [if_pos q, if_pos (iLe.mp q)]
      by_cases q1 : 0 ≤ n
      · rw [if_pos q1, if_pos (n0.mp q1)]
        by_cases q2 : y + n ≤ m
        · rw [if_pos q2, if_pos (by rw [← ey]; exact iLe.mp q2), ey]
        · rw [if_neg q2, if_neg (fun z => q2 (iLe.mpr (by rw [ey]; exact z)))]
      · rw [if_neg q1, if_neg (fun z => q1 (n0.mpr z))]
        by_cases q2 : k - n ≤ y
        · rw [if_pos q2, if_pos (by rw [← ek]; exact iLe.mp q2), ey]
        · rw [if_neg q2, if_neg (fun z => q2 (iLe.mpr (by rw [ek]; exact z))), e1]
    · rw [if_neg q, if_neg (fun z => q (iLe.mpr z))]
  rw [iLt, iLe] at hl
  have core : ∀ A B : Int, A = (if k.toInt ≤ x.toInt then (if n.toInt < 0 then (if k.toInt - n.toInt ≤ x.toInt then x.toInt + n.toInt else k.toInt) else x.toInt + n.toInt) else x.toInt) → B = (if k.toInt ≤ y.toInt then (if 0 ≤ n.toInt then (if y.toInt + n.toInt ≤ m.toInt then y.toInt + n.toInt else m.toInt) else (if k.toInt - n.toInt ≤ y.toInt then y.toInt + n.toInt else k.toInt - 1)) else y.toInt) → ¬ (B < A ∨ ¬ A ≤ m.toInt) → (1 ≤ A ∧ A ≤ m.toInt) ∧ (1 ≤ B ∧ B ≤ m.toInt) ∧ A ≤ B ∧ (x.toInt = y.toInt → B = A) := by
    intro A B hA hB h
    split at hA <;> (try split at hA) <;> (try split at hA) <;> split at hB <;> (try split at hB) <;> (try split at hB) <;> omega
  obtain ⟨c1, c2, c3, c4⟩ := core _ _ vx vy hl
  exact ⟨c1, c2, c3, fun e => Int32.toInt_inj.mp (c4 (by rw [e]))⟩
set_option maxRecDepth 100000 in
theorem ok_of {d e : Nd} (e0 : e 0 = d 0) (e1 : e 1 = d 1) (e2 : e 2 = d 2) (h7 : 0 ≤ (e 7).toInt ∧ (e 7).toInt ≤ 15) (h : ndOk d) (hf : isRf d) (r : rgP (e 3) 1048576 ∧ rgP (e 5) 1048576 ∧ (e 3).toInt ≤ (e 5).toInt ∧ rgP (e 4) 16384 ∧ rgP (e 6) 16384 ∧ (e 4).toInt ≤ (e 6).toInt) (c : d 0 = 4 → e 5 = e 3 ∧ e 6 = e 4) : ndOk e := by
  have hfe : isRf e := by
    unfold isRf at hf ⊢
    rw [e0]
    exact hf
  refine ⟨by rw [e2]; exact h.1, h7, fun z => absurd hfe z, fun _ => ⟨e1.trans (h.2.2.2.1 hf).1, r⟩, fun z => c (e0.symm.trans z)⟩
set_option maxRecDepth 100000 in
theorem sh_ok {x t k n ho : Int32} {d : Nd} (h : ndOk d) (hk : rgP k (lastT t)) (hn : wayP n) : ndOk (shM x t k n (lastT t) ho d) := by
  unfold shM
  by_cases q : isRf d ∧ onS x ho d
  · rw [b01_t q, if_neg (by decide)]
    obtain ⟨d1, r3, r5, r35, r4, r6, r46⟩ := h.2.2.2.1 q.1
    by_cases L : loS t k n (lastT t) d
    · rw [b01_t L, if_neg (by decide), lo_eq d1]
      exact lo_ok
    · rw [b01_f L, if_pos rfl]
      have hm := last_le t
      unfold loS at L
      by_cases ht : t = 0
      · have eA : wA t = 4 := if_pos ht
        have eB : wB t = 6 := if_pos ht
        have eL : lastT t = 16384 := if_pos ht
        rw [eA, eB, eL] at L
        rw [eA, eB, eL]
        rw [eL] at hm hk
        obtain ⟨c1, c2, c3, c4⟩ := sh_rg hm r4 r6 r46 hk hn L
        generalize fB (d 4) k n = a at c1 c3 c4 ⊢
        generalize lB (d 6) k n 16384 = b at c2 c3 c4 ⊢
        have s0 : setN (setN d 4 a) 6 b 0 = d 0 := (setN_n (by omega)).trans (setN_n (by omega))
        have s1 : setN (setN d 4 a) 6 b 1 = d 1 := (setN_n (by omega)).trans (setN_n (by omega))
        have s2 : setN (setN d 4 a) 6 b 2 = d 2 := (setN_n (by omega)).trans (setN_n (by omega))
        have s3 : setN (setN d 4 a) 6 b 3 = d 3 := (setN_n (by omega)).trans (setN_n (by omega))
        have s4 : setN (setN d 4 a) 6 b 4 = a := (setN_n (by omega)).trans setN_s
        have s5 : setN (setN d 4 a) 6 b 5 = d 5 := (setN_n (by omega)).trans (setN_n (by omega))
        have s6 : setN (setN d 4 a) 6 b 6 = b := setN_s
        have s7 : setN (setN d 4 a) 6 b 7 = d 7 := (setN_n (by omega)).trans (setN_n (by omega))
        refine ok_of s0 s1 s2 (by rw [s7]; exact h.2.1) h q.1 ?_ ?_
        · rw [s3, s4, s5, s6]
          exact ⟨r3, r5, r35, c1, c2, c3⟩
        · rw [s3, s4, s5, s6]
          exact fun z => ⟨(h.2.2.2.2 z).1, c4 (h.2.2.2.2 z).2.symm⟩
      · have eA : wA t = 3 := if_neg ht
        have eB : wB t = 5 := if_neg ht
        have eL : lastT t = 1048576 := if_neg ht
        rw [eA, eB, eL] at L
        rw [eA, eB, eL]
        rw [eL] at hm hk
        obtain ⟨c1, c2, c3, c4⟩ := sh_rg hm r3 r5 r35 hk hn L
        generalize fB (d 3) k n = a at c1 c3 c4 ⊢
        generalize lB (d 5) k n 1048576 = b at c2 c3 c4 ⊢
        have s0 : setN (setN d 3 a) 5 b 0 = d 0 := (setN_n (by omega)).trans (setN_n (by omega))
        have s1 : setN (setN d 3 a) 5 b 1 = d 1 := (setN_n (by omega)).trans (setN_n (by omega))
        have s2 : setN (setN d 3 a) 5 b 2 = d 2 := (setN_n (by omega)).trans (setN_n (by omega))
        have s3 : setN (setN d 3 a) 5 b 3 = a := (setN_n (by omega)).trans setN_s
        have s4 : setN (setN d 3 a) 5 b 4 = d 4 := (setN_n (by omega)).trans (setN_n (by omega))
        have s5 : setN (setN d 3 a) 5 b 5 = b := setN_s
        have s6 : setN (setN d 3 a) 5 b 6 = d 6 := (setN_n (by omega)).trans (setN_n (by omega))
        have s7 : setN (setN d 3 a) 5 b 7 = d 7 := (setN_n (by omega)).trans (setN_n (by omega))
        refine ok_of s0 s1 s2 (by rw [s7]; exact h.2.1) h q.1 ?_ ?_
        · rw [s3, s4, s5, s6]
          exact ⟨c1, c2, c3, r4, r6, r46⟩
        · rw [s3, s4, s5, s6]
          exact fun z => ⟨c4 (h.2.2.2.2 z).1.symm, (h.2.2.2.2 z).2⟩
  · rw [b01_f q, if_pos rfl]
    exact h
