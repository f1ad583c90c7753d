/-! the law's loop -/
section LP
variable {xs : List Int32}
set_option maxRecDepth 100000 in
theorem lg_r (x : Int64) : lg_cmp x x = 0 := by
  unfold lg_cmp
  simp
set_option maxRecDepth 100000 in
theorem ly_T {s : aS} (h : Ly xs.length (cCc xs) s) : (sT s 0).2 = xs.length := by
  rw [h.lowT (show 0 < zK by decide)]
  rfl
set_option maxRecDepth 100000 in
theorem ly_I {tt k : Nat} {s s1 : aS} (h : Ly tt (cCc xs) s) (g : Ly tt (cCc xs) s1) : sI s1 0 k = sI s 0 k := (g.2.2.2.2.2.2.2.2 0 k (by decide)).trans (h.2.2.2.2.2.2.2.2 0 k (by decide)).symm
set_option maxRecDepth 100000 in
theorem lp (hN : xs.length ≤ 3072) : ∀ (m q n : Nat) (s : aS) (t : List Int32) (ns : List (List Int32)) (fs : Nat → Option Fm) (lt : Nat → Nat → List Int32), SG xs.length xs s t ns fs lt → q + m = 512 → m < n → ∃ s', dm0_13 n (Int32.ofNat (6 * q)) s = some (1, s') ∧ sL s' ≤ sL s + 8 * m ∧ aSz s' ≤ aSz s + 3000 * m := by
  have e6 : (6 : Int32).toInt = 6 := rfl
  have eL : (Int32.ofNat xs.length - 6).toInt = (xs.length : Int) - 6 := by
    rw [iSub (by rw [e6, iOfNat (by omega)]; omega) (by rw [e6, iOfNat (by omega)]; omega), e6, iOfNat (by omega)]
  intro m
  induction m with
  | zero =>
    intro q n s t ns fs lt h h1 h2
    obtain ⟨n, rfl⟩ : ∃ k, n = k + 1 := ⟨n - 1, by omega⟩
    rw [dm0_13, ly_T h.1.1, if_pos (by rw [iLt, eL, iOfNat (by omega)]; omega)]
    exact ⟨s, rfl, by omega, by omega⟩
  | succ m ih =>
    intro q n s t ns fs lt h h1 h2
    obtain ⟨n, rfl⟩ : ∃ k, n = k + 1 := ⟨n - 1, by omega⟩
    rw [dm0_13, ly_T h.1.1]
    by_cases c : 6 * q + 6 ≤ xs.length
    · rw [if_neg (by rw [iLt, eL, iOfNat (by omega)]; omega)]
      have nxt : ∀ s2 t2 ns2 fs2 lt2, SG xs.length xs s2 t2 ns2 fs2 lt2 → gw s s2 → ∃ s', dm0_457 (dm0_13 n) (Int32.ofNat (6 * q)) s2 = some (1, s') ∧ sL s' ≤ sL s + 8 * (m + 1) ∧ aSz s' ≤ aSz s + 3000 * (m + 1) := by
        intro s2 t2 ns2 fs2 lt2 k2 g2
        unfold dm0_457
        have e : Int32.ofNat (6 * q) + 6 = Int32.ofNat (6 * (q + 1)) := iSum (i := 6 * q) (j := 6) (by omega) (by omega)
        rw [e]
        obtain ⟨s', f1, f2, f3⟩ := ih (q + 1) n s2 t2 ns2 fs2 lt2 k2 (by omega) (by omega)
        exact ⟨s', f1, by have := g2.1; omega, by have := g2.2; omega⟩
      have B : ∀ j, j ≤ 5 → aB (Int32.ofNat (6 * q) + Int32.ofNat j) xs.length := fun j hj => by
        rw [iSum (by omega) (by omega)]
        exact aB_of (by omega) (by omega)
      have b0 : aB (Int32.ofNat (6 * q)) xs.length := aB_of (by omega) (by omega)
      have b1 : aB (Int32.ofNat (6 * q) + 1) xs.length := B 1 (by omega)
      have b2 : aB (Int32.ofNat (6 * q) + 2) xs.length := B 2 (by omega)
      have b3 : aB (Int32.ofNat (6 * q) + 3) xs.length := B 3 (by omega)
      have b4 : aB (Int32.ofNat (6 * q) + 4) xs.length := B 4 (by omega)
      have b5 : aB (Int32.ofNat (6 * q) + 5) xs.length := B 5 (by omega)
      rw [if_pos b0]
      by_cases c0 : ((sI s 0 (jN (Int32.ofNat (6 * q)))) &&& 15) = 0
      · rw [if_pos c0]
        rw [if_pos b1]
        obtain ⟨k, s1, b, s2, t1, ns1, fs1, lt1, e1, l1, e2, e3, e5, e6⟩ := s_type h (sI s 0 (jN (Int32.ofNat (6 * q) + 1)))
        rw [e1]
        simp only [bv_some]
        rw [ly_T l1, if_pos b1, ly_I h.1.1 l1, e2]
        simp only [bv_some]
        exact nxt s2 t1 ns1 fs1 lt1 e5 e6
      · rw [if_neg c0]
        by_cases c1 : ((sI s 0 (jN (Int32.ofNat (6 * q)))) &&& 15) = 1
        · rw [if_pos c1]
          obtain ⟨s1, s2, e1, e2, e5, e6⟩ := s_erase h
          rw [e1]
          simp only [bu_some]
          rw [e2]
          simp only [bu_some]
          exact nxt s2 [] ns fs lt e5 e6
        · rw [if_neg c1]
          by_cases c2 : ((sI s 0 (jN (Int32.ofNat (6 * q)))) &&& 15) = 2
          · rw [if_pos c2]
            obtain ⟨k, s1, b, s2, t1, ns1, fs1, lt1, e1, l1, e2, e3, e5, e6⟩ := s_sheet h 
            rw [e1]
            simp only [bv_some]
            rw [e2]
            simp only [bv_some]
            exact nxt s2 t1 ns1 fs1 lt1 e5 e6
          · rw [if_neg c2]
            by_cases c3 : ((sI s 0 (jN (Int32.ofNat (6 * q)))) &&& 15) = 3
            · rw [if_pos c3]
              rw [if_pos b1]
              obtain ⟨k, s1, s2, t1, ns1, fs1, lt1, e1, l1, e2, e3, e5, e6⟩ := s_rename h (sI s 0 (jN (Int32.ofNat (6 * q) + 1)))
              rw [e1]
              simp only [bv_some]
              rw [ly_T l1, if_pos b1, ly_I h.1.1 l1, e2]
              simp only [bu_some]
              exact nxt s2 t1 ns1 fs1 lt1 e5 e6
            · rw [if_neg c3]
              by_cases c4 : ((sI s 0 (jN (Int32.ofNat (6 * q)))) &&& 15) = 4
              · rw [if_pos c4]
                rw [if_pos b1]
                obtain ⟨k, s1, s2, t1, ns1, fs1, lt1, e1, l1, e2, e3, e5, e6⟩ := s_drop h (sI s 0 (jN (Int32.ofNat (6 * q) + 1)))
                rw [e1]
                simp only [bv_some]
                rw [ly_T l1, if_pos b1, ly_I h.1.1 l1, e2]
                simp only [bu_some]
                exact nxt s2 t1 ns1 fs1 lt1 e5 e6
              · rw [if_neg c4]
                by_cases c5 : ((sI s 0 (jN (Int32.ofNat (6 * q)))) &&& 15) = 5
                · rw [if_pos c5]
                  rw [if_pos b1, if_pos b2]
                  obtain ⟨k, s1, b, s2, t1, ns1, fs1, lt1, e1, l1, e2, e3, e5, e6⟩ := s_read h (sI s 0 (jN (Int32.ofNat (6 * q) + 1))) (sI s 0 (jN (Int32.ofNat (6 * q) + 2)))
                  rw [e1]
                  simp only [bv_some]
                  rw [ly_T l1, if_pos b1, if_pos b2, ly_I h.1.1 l1, ly_I h.1.1 l1, e2]
                  simp only [bv_some]
                  exact nxt s2 t1 ns1 fs1 lt1 e5 e6
                · rw [if_neg c5]
                  by_cases c6 : ((sI s 0 (jN (Int32.ofNat (6 * q)))) &&& 15) = 6
                  · rw [if_pos c6]
                    rw [if_pos b1, if_pos b2, if_pos b3, if_pos b4, if_pos b5]
                    obtain ⟨k, s1, s2, t1, ns1, fs1, lt1, e1, l1, e2, e3, e5, e6⟩ := s_move h (sI s 0 (jN (Int32.ofNat (6 * q) + 1))) (sI s 0 (jN (Int32.ofNat (6 * q) + 2))) (sI s 0 (jN (Int32.ofNat (6 * q) + 3))) (sI s 0 (jN (Int32.ofNat (6 * q) + 4))) (sI s 0 (jN (Int32.ofNat (6 * q) + 5)))
                    rw [e1]
                    simp only [bv_some]
                    rw [ly_T l1, if_pos b1, if_pos b2, if_pos b3, if_pos b4, if_pos b5, ly_I h.1.1 l1, ly_I h.1.1 l1, ly_I h.1.1 l1, ly_I h.1.1 l1, ly_I h.1.1 l1, e2]
                    simp only [bu_some]
                    exact nxt s2 t1 ns1 fs1 lt1 e5 e6
                  · rw [if_neg c6]
                    by_cases c7 : ((sI s 0 (jN (Int32.ofNat (6 * q)))) &&& 15) = 7
                    · rw [if_pos c7]
                      rw [if_pos b1, if_pos b2]
                      by_cases cy : (sI s 0 (jN (Int32.ofNat (6 * q) + 2))) = 0
                      · rw [if_pos cy]
                        unfold dm0_187 dm0_215
                        rw [ly_T h.1.1, if_pos b3, if_pos b4]
                        obtain ⟨k, s1, b, s2, t1, ns1, fs1, lt1, e1, l1, e2, e3, e5, e6⟩ := s_shift h (sI s 0 (jN (Int32.ofNat (6 * q) + 1))) 0 (sI s 0 (jN (Int32.ofNat (6 * q) + 3))) (sI s 0 (jN (Int32.ofNat (6 * q) + 4)))
                        rw [e1]
                        simp only [bv_some]
                        rw [ly_T l1, if_pos b1, if_pos b2, ly_I h.1.1 l1, ly_I h.1.1 l1, ly_I h.1.1 l1, ly_I h.1.1 l1, if_pos cy, if_pos b3, if_pos b4, e2]
                        simp only [bv_some]
                        exact nxt s2 t1 ns1 fs1 lt1 e5 e6
                      · rw [if_neg cy]
                        unfold dm0_187 dm0_215
                        rw [ly_T h.1.1, if_pos b3, if_pos b4]
                        obtain ⟨k, s1, b, s2, t1, ns1, fs1, lt1, e1, l1, e2, e3, e5, e6⟩ := s_shift h (sI s 0 (jN (Int32.ofNat (6 * q) + 1))) 1 (sI s 0 (jN (Int32.ofNat (6 * q) + 3))) (sI s 0 (jN (Int32.ofNat (6 * q) + 4)))
                        rw [e1]
                        simp only [bv_some]
                        rw [ly_T l1, if_pos b1, if_pos b2, ly_I h.1.1 l1, ly_I h.1.1 l1, ly_I h.1.1 l1, ly_I h.1.1 l1, if_neg cy, if_pos b3, if_pos b4, e2]
                        simp only [bv_some]
                        exact nxt s2 t1 ns1 fs1 lt1 e5 e6
                    · rw [if_neg c7]
                      by_cases c8 : ((sI s 0 (jN (Int32.ofNat (6 * q)))) &&& 15) = 8
                      · rw [if_pos c8]
                        rw [if_pos b1]
                        obtain ⟨k, s1, s2, t1, ns1, fs1, lt1, e1, l1, e2, e3, e5, e6⟩ := s_remove h (sI s 0 (jN (Int32.ofNat (6 * q) + 1)))
                        rw [e1]
                        simp only [bv_some]
                        rw [ly_T l1, if_pos b1, ly_I h.1.1 l1, e2]
                        simp only [bu_some]
                        exact nxt s2 t1 ns1 fs1 lt1 e5 e6
                      · rw [if_neg c8]
                        by_cases c9 : ((sI s 0 (jN (Int32.ofNat (6 * q)))) &&& 15) = 9
                        · rw [if_pos c9]
                          rw [if_pos b1, if_pos b2]
                          obtain ⟨k, s1, b, s2, t1, ns1, fs1, lt1, e1, l1, e2, e3, e5, e6⟩ := s_formT h (sI s 0 (jN (Int32.ofNat (6 * q) + 1))) (sI s 0 (jN (Int32.ofNat (6 * q) + 2)))
                          rw [e1]
                          simp only [bv_some]
                          rw [ly_T l1, if_pos b1, if_pos b2, ly_I h.1.1 l1, ly_I h.1.1 l1, e2]
                          simp only [bv_some]
                          obtain ⟨e7, e8⟩ := e3 trivial
                          unfold dm171 dm0_288
                          simp only [bu_some]
                          rw [e7, if_pos rfl]
                          by_cases ck : k = 0
                          · rw [if_pos ck, if_pos a01, show sJ s2 148 (jN 0) = b.toInt64 from e8 ck, if_pos (lg_r _)]
                            exact nxt s2 t1 ns1 fs1 lt1 e5 e6
                          · rw [if_neg ck]
                            exact nxt s2 t1 ns1 fs1 lt1 e5 e6
                        · rw [if_neg c9]
                          by_cases c10 : ((sI s 0 (jN (Int32.ofNat (6 * q)))) &&& 15) = 10
                          · rw [if_pos c10]
                            rw [if_pos b1]
                            obtain ⟨k, s1, b, s2, t1, ns1, fs1, lt1, e1, l1, e2, e3, e5, e6⟩ := s_size h (sI s 0 (jN (Int32.ofNat (6 * q) + 1)))
                            rw [e1]
                            simp only [bv_some]
                            rw [ly_T l1, if_pos b1, ly_I h.1.1 l1, e2]
                            simp only [bv_some]
                            exact nxt s2 t1 ns1 fs1 lt1 e5 e6
                          · rw [if_neg c10]
                            by_cases c11 : ((sI s 0 (jN (Int32.ofNat (6 * q)))) &&& 15) = 11
                            · rw [if_pos c11]
                              rw [if_pos b1, if_pos b2, if_pos b3]
                              obtain ⟨k, s1, b, s2, t1, ns1, fs1, lt1, e1, l1, e2, e3, e5, e6⟩ := s_node h (sI s 0 (jN (Int32.ofNat (6 * q) + 1))) (sI s 0 (jN (Int32.ofNat (6 * q) + 2))) (sI s 0 (jN (Int32.ofNat (6 * q) + 3)))
                              rw [e1]
                              simp only [bv_some]
                              rw [ly_T l1, if_pos b1, if_pos b2, if_pos b3, ly_I h.1.1 l1, ly_I h.1.1 l1, ly_I h.1.1 l1, e2]
                              simp only [bv_some]
                              exact nxt s2 t1 ns1 fs1 lt1 e5 e6
                            · rw [if_neg c11]
                              by_cases c12 : ((sI s 0 (jN (Int32.ofNat (6 * q)))) &&& 15) = 12
                              · rw [if_pos c12]
                                rw [if_pos b1, if_pos b2, if_pos b3]
                                obtain ⟨k, s1, b, s2, t1, ns1, fs1, lt1, e1, l1, e2, e3, e5, e6⟩ := s_letter h (sI s 0 (jN (Int32.ofNat (6 * q) + 1))) (sI s 0 (jN (Int32.ofNat (6 * q) + 2))) (sI s 0 (jN (Int32.ofNat (6 * q) + 3)))
                                rw [e1]
                                simp only [bv_some]
                                rw [ly_T l1, if_pos b1, if_pos b2, if_pos b3, ly_I h.1.1 l1, ly_I h.1.1 l1, ly_I h.1.1 l1, e2]
                                simp only [bv_some]
                                exact nxt s2 t1 ns1 fs1 lt1 e5 e6
                              · rw [if_neg c12]
                                by_cases c13 : ((sI s 0 (jN (Int32.ofNat (6 * q)))) &&& 15) = 13
                                · rw [if_pos c13]
                                  rw [if_pos b1, if_pos b2]
                                  obtain ⟨k, s1, b, s2, t1, ns1, fs1, lt1, e1, l1, e2, e3, e5, e6⟩ := s_same h (sI s 0 (jN (Int32.ofNat (6 * q) + 1))) (sI s 0 (jN (Int32.ofNat (6 * q) + 2)))
                                  rw [e1]
                                  simp only [bv_some]
                                  rw [ly_T l1, if_pos b1, if_pos b2, ly_I h.1.1 l1, ly_I h.1.1 l1, e2]
                                  simp only [bv_some]
                                  exact nxt s2 t1 ns1 fs1 lt1 e5 e6
                                · rw [if_neg c13]
                                  by_cases c14 : ((sI s 0 (jN (Int32.ofNat (6 * q)))) &&& 15) = 14
                                  · rw [if_pos c14]
                                    rw [if_pos b1]
                                    obtain ⟨k, s1, b, s2, t1, ns1, fs1, lt1, e1, l1, e2, e3, e5, e6⟩ := s_count h (sI s 0 (jN (Int32.ofNat (6 * q) + 1)))
                                    rw [e1]
                                    simp only [bv_some]
                                    rw [ly_T l1, if_pos b1, ly_I h.1.1 l1, e2]
                                    simp only [bv_some]
                                    exact nxt s2 t1 ns1 fs1 lt1 e5 e6
                                  · rw [if_neg c14]
                                    by_cases c15 : ((sI s 0 (jN (Int32.ofNat (6 * q)))) &&& 15) = 15
                                    · rw [if_pos c15]
                                      rw [if_pos b1, if_pos b2]
                                      obtain ⟨k, s1, b, s2, t1, ns1, fs1, lt1, e1, l1, e2, e3, e5, e6⟩ := s_name h (sI s 0 (jN (Int32.ofNat (6 * q) + 1))) (sI s 0 (jN (Int32.ofNat (6 * q) + 2)))
                                      rw [e1]
                                      simp only [bv_some]
                                      rw [ly_T l1, if_pos b1, if_pos b2, ly_I h.1.1 l1, ly_I h.1.1 l1, e2]
                                      simp only [bv_some]
                                      exact nxt s2 t1 ns1 fs1 lt1 e5 e6
                                    · rw [if_neg c15]
                                      exact nxt s t ns fs lt h (gw_ch (ch.refl (fun _ _ => False) s))
    · rw [if_pos (by rw [iLt, eL, iOfNat (by omega)]; omega)]
      exact ⟨s, rfl, by omega, by omega⟩
set_option maxRecDepth 100000 in
/-- a new object -/
theorem SS.st (xs : List Int32) : SS xs.length xs (csE xs) [] [] (fun _ => none) (fun _ _ => []) := by
  have hl := fin_ly xs
  obtain ⟨h1, h2, h3, h4, h5, h6, h7, h8⟩ := caE xs
  have hL : sL (csE xs) = 149 := h1.trans (by decide +kernel)
  have z0 : (0 : Int32) = Int32.ofNat 0 := rfl
  have kI : ∀ a k, a ≠ 0 → sI (csE []) a k = 0 → sI (csE xs) a k = Int32.ofNat 0 := fun a k ha e => (h5 a k ha).trans e
  have r0 : ∀ f : Fin 8, sR (csE []) 100 f.val = .null := by decide +kernel
  have m0 : ∀ f : Fin 8, sI (csE []) 125 f.val = 0 := by decide +kernel
  have k102 : aK (csE xs) 102 3 := hl.Kd (n := 3) 24 rfl rfl (by decide)
  have eN : ∀ f, f < 8 → sR (csE xs) 100 f = .null := fun f hf => (h4 100 f (by decide)).trans (r0 ⟨f, hf⟩)
  have ln : ∀ b, sI (csE xs) b 1 = Int32.ofNat 0 → LT (csE xs) b [] := fun b e => ⟨e, fun j hj => absurd hj (Nat.not_lt_zero j)⟩
  have ok0 : okT [] := fun y hy => (by cases hy)
  refine ⟨hl, ⟨⟨ln 79 (kI 79 1 (by decide) (by decide +kernel)), by decide, ok0⟩, ⟨⟨⟨kI 81 2 (by decide) (by decide +kernel), fun i hi => absurd hi (Nat.not_lt_zero i)⟩, fun i hi => absurd hi (Nat.not_lt_zero i)⟩, by decide, fun n hn => (by cases hn)⟩, ⟨fun f hf => Or.inl (eN f hf), fun f g b hf hg q1 q2 => ?_, 102, (h4 78 6 (by decide)).trans (by decide +kernel), k102, fun f hf q => ?_⟩, fun b hb => ?_, ⟨[], ln 107 (kI 107 1 (by decide) (by decide +kernel)), by decide, ok0⟩, ⟨0, by decide, kI 110 2 (by decide) (by decide +kernel)⟩, 0, by decide, kI 113 3 (by decide) (by decide +kernel)⟩, ⟨kI 121 1 (by decide) (by decide +kernel), fun j hj => absurd hj (Nat.not_lt_zero j)⟩, ⟨kI 121 3 (by decide) (by decide +kernel), fun i hi => absurd hi (Nat.not_lt_zero i)⟩, fun f hf => ⟨fun _ => (h5 125 f (by decide)).trans (m0 ⟨f, hf⟩), fun h9 L q => (by cases q)⟩, fun f hf h9 L q => (by cases q), fun f hf h9 L q => (by cases q), fun f h9 L q => (by cases q)⟩
  · rw [eN f hf] at q1
    cases q1
  · rw [eN f hf] at q
    cases q
  · have hb3 := tr_at hl hb
    have hbl := (hl.tr hb).2.2.2.1
    rw [hL] at hbl
    have e : b = 102 := by omega
    subst e
    exact ⟨0, [], by decide, kI 102 2 (by decide) (by decide +kernel), ⟨ln 104 (kI 104 1 (by decide) (by decide +kernel)), by decide, ok0⟩, fun k hk => absurd hk (Nat.not_lt_zero k)⟩
set_option maxRecDepth 100000 in
theorem SG.st (xs : List Int32) : SG xs.length xs (csE xs) [] [] (fun _ => none) (fun _ _ => []) := by
  obtain ⟨h1, h2, h3, h4, h5, h6, h7, h8⟩ := caE xs
  have m0 : ∀ f : Fin 8, sI (csE []) 101 f.val = -1 := by decide +kernel
  exact ⟨SS.st xs, fun f hf => ⟨fun _ => (h5 101 f (by decide)).trans (m0 ⟨f, hf⟩), fun h9 L q => (by cases q)⟩, fun f hf h9 L q => (by cases q)⟩
set_option maxRecDepth 100000 in
theorem zPure_ok : zPure 3072 := zPure_of fun xs hx => by
  obtain ⟨s', e1, e2, e3⟩ := lp hx 512 0 5000 (csE xs) [] [] (fun _ => none) (fun _ _ => []) (SG.st xs) (by omega) (by omega)
  have hL : sL (csE xs) = 149 := (caE xs).1.trans (by decide +kernel)
  have hz := aSz_csE xs
  have e1 : dm0 0 (csE xs) = some (1, s') := e1
  exact ⟨s', e1, by omega, by omega⟩
end LP
