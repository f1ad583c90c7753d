/-! nodes stay right over move -/
set_option maxRecDepth 100000 in
theorem exC2 {x : Int32} (hx : 0 ≤ x.toInt ∧ x.toInt ≤ 15) : 0 ≤ (((x &&& 5) ||| ((x &&& 2) <<< ((2 : Int32) &&& 31))) ||| ((x >>> ((2 : Int32) &&& 31)) &&& 2)).toInt ∧ (((x &&& 5) ||| ((x &&& 2) <<< ((2 : Int32) &&& 31))) ||| ((x >>> ((2 : Int32) &&& 31)) &&& 2)).toInt ≤ 15 := by
  have key : ∀ q : Fin 16, 0 ≤ (((Int32.ofNat q.val &&& 5) ||| ((Int32.ofNat q.val &&& 2) <<< ((2 : Int32) &&& 31))) ||| ((Int32.ofNat q.val >>> ((2 : Int32) &&& 31)) &&& 2)).toInt ∧ (((Int32.ofNat q.val &&& 5) ||| ((Int32.ofNat q.val &&& 2) <<< ((2 : Int32) &&& 31))) ||| ((Int32.ofNat q.val >>> ((2 : Int32) &&& 31)) &&& 2)).toInt ≤ 15 := by decide +kernel
  have := key ⟨x.toInt.toNat, by omega⟩
  rw [← ofNat_of (x := x) hx.1] at this
  exact this
set_option maxRecDepth 100000 in
theorem srR_k {e : Nd} {k : Nat} (h : k ≠ 3 ∧ k ≠ 5 ∧ k ≠ 7) : srR e k = e k := by
  unfold srR
  split
  · rfl
  · rw [setN_n h.2.2, setN_n h.2.1, setN_n h.1]
set_option maxRecDepth 100000 in
theorem srC_k {e : Nd} {k : Nat} (h : k ≠ 4 ∧ k ≠ 6 ∧ k ≠ 7) : srC e k = e k := by
  unfold srC
  split
  · rfl
  · rw [setN_n h.2.2, setN_n h.2.1, setN_n h.1]
set_option maxRecDepth 100000 in
theorem srR_r {e : Nd} {m : Int32} (h3 : rgP (e 3) m) (h5 : rgP (e 5) m) (h7 : 0 ≤ (e 7).toInt ∧ (e 7).toInt ≤ 15) : rgP (srR e 3) m ∧ rgP (srR e 5) m ∧ (srR e 3).toInt ≤ (srR e 5).toInt ∧ 0 ≤ (srR e 7).toInt ∧ (srR e 7).toInt ≤ 15 := by
  unfold srR
  by_cases q : e 3 ≤ e 5
  · rw [if_pos q]
    exact ⟨h3, h5, iLe.mp q, h7⟩
  · rw [if_neg q]
    rw [setN_n (k := 3) (by omega), setN_n (k := 3) (by omega), setN_s, setN_n (k := 5) (by omega), setN_s, setN_s]
    rw [iLe] at q
    exact ⟨h5, h3, by omega, (exR h7).2⟩
set_option maxRecDepth 100000 in
theorem srC_r {e : Nd} {m : Int32} (h3 : rgP (e 4) m) (h5 : rgP (e 6) m) (h7 : 0 ≤ (e 7).toInt ∧ (e 7).toInt ≤ 15) : rgP (srC e 4) m ∧ rgP (srC e 6) m ∧ (srC e 4).toInt ≤ (srC e 6).toInt ∧ 0 ≤ (srC e 7).toInt ∧ (srC e 7).toInt ≤ 15 := by
  unfold srC
  by_cases q : e 4 ≤ e 6
  · rw [if_pos q]
    exact ⟨h3, h5, iLe.mp q, h7⟩
  · rw [if_neg q]
    rw [setN_n (k := 4) (by omega), setN_n (k := 4) (by omega), setN_s, setN_n (k := 6) (by omega), setN_s, setN_s]
    rw [iLe] at q
    exact ⟨h5, h3, by omega, exC2 h7⟩
set_option maxRecDepth 100000 in
theorem bey_rg {x m : Int32} (h : ¬ bey x m) : rgP x m := Classical.byContradiction fun z => h z
set_option maxRecDepth 100000 in
theorem mv_ok {r c : Int32} {d : Nd} (h : ndOk d) (hf : isRf d) : ndOk (mvM r c d) := by
  have d1 := (h.2.2.2.1 hf).1
  have e0 : mv4 c (mv3 r (mv2 c (mv1 r d))) 0 = d 0 := (mv4_n (by omega)).trans ((mv3_n (by omega)).trans ((mv2_n (by omega)).trans (mv1_n (by omega))))
  have e1 : mv4 c (mv3 r (mv2 c (mv1 r d))) 1 = d 1 := (mv4_n (by omega)).trans ((mv3_n (by omega)).trans ((mv2_n (by omega)).trans (mv1_n (by omega))))
  have e2 : mv4 c (mv3 r (mv2 c (mv1 r d))) 2 = d 2 := (mv4_n (by omega)).trans ((mv3_n (by omega)).trans ((mv2_n (by omega)).trans (mv1_n (by omega))))
  have e7 : mv4 c (mv3 r (mv2 c (mv1 r d))) 7 = d 7 := (mv4_n (by omega)).trans ((mv3_n (by omega)).trans ((mv2_n (by omega)).trans (mv1_n (by omega))))
  have c53 := mv_c53 (r := r) (c := c) (d := d)
  have c64 := mv_c64 (r := r) (c := c) (d := d)
  unfold mvM
  generalize mv4 c (mv3 r (mv2 c (mv1 r d))) = e at e0 e1 e2 e7 c53 c64 ⊢
  have h7 : 0 ≤ (e 7).toInt ∧ (e 7).toInt ≤ 15 := by rw [e7]; exact h.2.1
  unfold mvE
  by_cases B : mvB e
  · rw [b01_t B, if_pos rfl, lo_eq (e1.trans d1)]
    exact lo_ok
  · rw [b01_f B, if_neg (by decide)]
    have g3 : rgP (e 3) 1048576 := bey_rg fun z => B (Or.inl z)
    have g5 : rgP (e 5) 1048576 := bey_rg fun z => B (Or.inr (Or.inl z))
    have g4 : rgP (e 4) 16384 := bey_rg fun z => B (Or.inr (Or.inr (Or.inl z)))
    have g6 : rgP (e 6) 16384 := bey_rg fun z => B (Or.inr (Or.inr (Or.inr z)))
    by_cases k4 : e 0 = 4
    · rw [if_pos k4]
      have k := e0.symm.trans k4
      exact ok_of e0 e1 e2 h7 h hf ⟨g3, g5, by rw [c53 k]; exact Int.le_refl _, g4, g6, by rw [c64 k]; exact Int.le_refl _⟩ (fun z => ⟨c53 z, c64 z⟩)
    · rw [if_neg k4]
      obtain ⟨r3, r5, r35, r7⟩ := srR_r g3 g5 h7
      have q4 : srR e 4 = e 4 := srR_k (by omega)
      have q6 : srR e 6 = e 6 := srR_k (by omega)
      obtain ⟨s4, s6, s46, s7⟩ := srC_r (e := srR e) (by rw [q4]; exact g4) (by rw [q6]; exact g6) r7
      have w3 : srC (srR e) 3 = srR e 3 := srC_k (by omega)
      have w5 : srC (srR e) 5 = srR e 5 := srC_k (by omega)
      refine ok_of ((srC_k (by omega)).trans ((srR_k (by omega)).trans e0)) ((srC_k (by omega)).trans ((srR_k (by omega)).trans e1)) ((srC_k (by omega)).trans ((srR_k (by omega)).trans e2)) s7 h hf ?_ (fun z => absurd (e0.trans z) k4)
      rw [w3, w5]
      exact ⟨r3, r5, r35, s4, s6, s46⟩
