/-! the writer of FormulaTrees comes to its end: whole -/
section CW
variable {s : aS} {b : Nat} {ns : List (List Int32)}
set_option maxRecDepth 100000 in
theorem c148 (h : FS s b ns) (x : Int32) : Wc (dm148 x s) s := by
  have f18 : ∀ (y : Int32) (s : aS), FS s b ns → Wc (dm148_18 x y s) s := by
    intro y s h
    obtain ⟨v3, e3, -⟩ := c57 h x 3 (by omega)
    obtain ⟨v4, e4, -⟩ := c57 h x 4 (by omega)
    have e3 : dm57 b x 3 s = some v3 := e3
    have e4 : dm57 b x 4 s = some v4 := e4
    unfold dm148_18
    rw [h.1, vN_ref, if_pos h.2.1, e3]
    simp only [bu_some, vN_ref]
    rw [if_pos h.2.1, e4]
    simp only [bu_some]
    refine (c152 v3 v4 y s).b fun s1 c1 => ?_
    have h1 := h.of (dc c1)
    obtain ⟨v0, e0, -⟩ := c57 h1 x 0 (by omega)
    have e0 : dm57 b x 0 s1 = some v0 := e0
    rw [h1.1, vN_ref, if_pos h1.2.1, e0]
    simp only [bu_some]
    split
    · refine (c141 _ s1).b fun s2 c2 => ?_
      have h2 := h1.of (dc c2)
      obtain ⟨v5, e5, -⟩ := c57 h2 x 5 (by omega)
      obtain ⟨v6, e6, -⟩ := c57 h2 x 6 (by omega)
      have e5 : dm57 b x 5 s2 = some v5 := e5
      have e6 : dm57 b x 6 s2 = some v6 := e6
      rw [h2.1, vN_ref, if_pos h2.2.1, e5]
      simp only [bu_some, vN_ref]
      rw [if_pos h2.2.1, e6]
      simp only [bu_some]
      exact (c152 v5 v6 _ s2).b fun s3 c3 => Wc.s s3
    · exact Wc.s s1
  obtain ⟨v2, e2, -⟩ := c57 h x 2 (by omega)
  obtain ⟨v7, e7, -⟩ := c57 h x 7 (by omega)
  have e2 : dm57 b x 2 s = some v2 := e2
  have e7 : dm57 b x 7 s = some v7 := e7
  unfold dm148
  rw [h.1, vN_ref, if_pos h.2.1, e2]
  simp only [bu_some, vN_ref]
  rw [if_pos h.2.1, e7]
  simp only [bu_some]
  split
  · exact f18 v7 s h
  · exact (c149 h v2).b fun s1 c1 => f18 v7 s1 (h.of (dc c1))
set_option maxRecDepth 100000 in
theorem c110 (x : Int32) : ∃ k, k < 38 ∧ dm110 x = some (.ref (2 * k + 1)) := by
  unfold dm110
  repeat' split
  · exact ⟨10, by decide, rfl⟩
  · exact ⟨11, by decide, rfl⟩
  · exact ⟨12, by decide, rfl⟩
  · exact ⟨13, by decide, rfl⟩
  · exact ⟨14, by decide, rfl⟩
  · exact ⟨15, by decide, rfl⟩
  · exact ⟨16, by decide, rfl⟩
set_option maxRecDepth 100000 in
theorem c157 (x : Int32) : ∃ k, k < 38 ∧ dm157 x = some (.ref (2 * k + 1)) := by
  unfold dm157
  repeat' split
  · exact ⟨23, by decide, rfl⟩
  · exact ⟨24, by decide, rfl⟩
  · exact ⟨25, by decide, rfl⟩
  · exact ⟨26, by decide, rfl⟩
  · exact ⟨27, by decide, rfl⟩
  · exact ⟨28, by decide, rfl⟩
  · exact ⟨29, by decide, rfl⟩
  · exact ⟨30, by decide, rfl⟩
  · exact ⟨31, by decide, rfl⟩
  · exact ⟨32, by decide, rfl⟩
  · exact ⟨33, by decide, rfl⟩
  · exact ⟨34, by decide, rfl⟩
set_option maxRecDepth 100000 in
theorem c142 (h : FS s b ns) (x : Int32) : Wc (dm142 x s) s := by
  obtain ⟨v0, e0, -⟩ := c57 h x 0 (by omega)
  obtain ⟨v8, e8, -⟩ := c57 h x 8 (by omega)
  have e0 : dm57 b x 0 s = some v0 := e0
  have e8 : dm57 b x 8 s = some v8 := e8
  unfold dm142
  rw [h.1, vN_ref, if_pos h.2.1, e0]
  simp only [bu_some, vN_ref]
  by_cases q0 : v0 = 0
  · rw [if_pos q0]
    exact (c143 h x).b fun s1 c1 => Wc.s s1
  · rw [if_neg q0]
    by_cases q1 : v0 = 1
    · rw [if_pos q1]
      exact (c145 h x).b fun s1 c1 => Wc.s s1
    · rw [if_neg q1]
      by_cases q2 : v0 = 2
      · rw [if_pos q2, if_pos h.2.1, e8]
        simp only [bu_some]
        obtain ⟨k, hk, ek⟩ := c110 v8
        rw [ek]
        simp only [bu_some]
        show Wc (if aK s (2 * k + 1) 70 then bu (dm147 (2 * k + 1) s) fun s32 => some s32 else none) s
        rw [if_pos (h.2.2.2.2.2.2.2.2 k hk).1]
        exact (c147 h hk).b fun s1 c1 => Wc.s s1
      · rw [if_neg q2]
        by_cases q3 : v0 = 3
        · rw [if_pos q3, if_pos h.2.1, e8]
          simp only [bu_some]
          unfold dm142_34
          split
          · exact (c147 (k := 20) h (by decide)).b fun s1 c1 => Wc.s s1
          · exact (c147 (k := 21) h (by decide)).b fun s1 c1 => Wc.s s1
        · rw [if_neg q3]
          by_cases q4 : v0 = 4
          · rw [if_pos q4]
            exact (c148 h x).b fun s1 c1 => Wc.s s1
          · rw [if_neg q4]
            by_cases q5 : v0 = 5
            · rw [if_pos q5]
              exact (c148 h x).b fun s1 c1 => Wc.s s1
            · rw [if_neg q5]
              by_cases q6 : v0 = 6
              · rw [if_pos q6]
                exact (c143 h x).b fun s1 c1 => Wc.s s1
              · rw [if_neg q6]
                by_cases q7 : v0 = 7
                · rw [if_pos q7]
                  exact (c143 h x).b fun s1 c1 => (c141 _ s1).b fun s2 c2 => Wc.s s2
                · rw [if_neg q7]
                  by_cases q8 : v0 = 8
                  · rw [if_pos q8]
                    exact Wc.s s
                  · rw [if_neg q8]
                    by_cases q9 : v0 = 9
                    · rw [if_pos q9]
                      exact Wc.s s
                    · rw [if_neg q9]
                      by_cases q10 : v0 = 10
                      · rw [if_pos q10]
                        exact (c141 _ s).b fun s1 c1 => Wc.s s1
                      · rw [if_neg q10]
                        exact Wc.s s
/-- with the depth -/
def Wd (D : Option aS) (s : aS) : Prop := ∃ s' d, D = some s' ∧ ch wrC s s' ∧ d ≤ 128 ∧ sI s' 117 4 = Int32.ofNat d
set_option maxRecDepth 100000 in
theorem Wc.d {D : Option aS} {K : aS → Option aS} {d : Nat} (h : Wc D s) (hd : d ≤ 128) (h4 : sI s 117 4 = Int32.ofNat d) (k : ∀ s1, ch wrD s s1 → sI s1 117 4 = Int32.ofNat d → Wd (K s1) s1) : Wd (bu D K) s := by
  obtain ⟨s1, h1, h2⟩ := h
  rw [h1]
  obtain ⟨s2, e, k1, k2, k3, k4⟩ := k s1 h2 ((h2.i (by unfold wrD; omega)).trans h4)
  exact ⟨s2, e, k1, (dc h2).trans k2, k3, k4⟩
set_option maxRecDepth 100000 in
theorem c140 {d : Nat} (x : Int32) (hd : d ≤ 128) (h4 : sI s 117 4 = Int32.ofNat d) : Wd (dm140 x s) s := by
  have f24 : ∀ (s : aS), d < 128 → sI s 117 4 = Int32.ofNat d → Wd (dm140_24 x s) s := by
    intro s hd h4
    have bd : aB (Int32.ofNat d) 128 := aB_of hd (by omega)
    unfold dm140_24
    rw [h4, if_pos bd]
    simp only [nx_eq]
    have e1 : sI (wI s 118 (jN (Int32.ofNat d)) (sI s 117 6)) 117 4 = Int32.ofNat d := by rw [sI_wI, if_neg (by omega)]; exact h4
    rw [e1, if_pos bd]
    have e2 : sI (wI (wI s 118 (jN (Int32.ofNat d)) (sI s 117 6)) 119 (jN (Int32.ofNat d)) 0) 117 4 = Int32.ofNat d := by rw [sI_wI, if_neg (by omega)]; exact e1
    rw [e2, if_pos bd]
    have e3 : sI (wI (wI (wI s 118 (jN (Int32.ofNat d)) (sI s 117 6)) 119 (jN (Int32.ofNat d)) 0) 120 (jN (Int32.ofNat d)) (x &&& 1)) 117 4 = Int32.ofNat d := by rw [sI_wI, if_neg (by omega)]; exact e2
    rw [e3, ofNat_succ (by omega)]
    refine ⟨_, d + 1, rfl, ?_, by omega, ?_⟩
    · exact ((((((ch.refl _ s).wI (by unfold wrC; omega)).wI (by unfold wrC; omega)).wI (by unfold wrC; omega)).wI (by unfold wrC; omega)).wI (by unfold wrC; omega)).wI (by unfold wrC; omega)
    · rw [sI_wI, if_neg (by omega), sI_wI, if_neg (by omega), sI_wI, if_pos ⟨rfl, rfl⟩]
  have f19 : ∀ (s : aS), d < 128 → sI s 117 4 = Int32.ofNat d → Wd (dm140_19 x s) s := by
    intro s hd h4
    unfold dm140_19
    split
    · exact f24 s hd h4
    · exact (c141 40 s).d (by omega) h4 fun s1 c1 e1 => f24 s1 hd e1
  unfold dm140
  rw [h4]
  by_cases c : d = 128
  · subst c
    rw [if_neg (by decide)]
    exact ⟨s, 128, rfl, ch.refl _ s, by omega, h4⟩
  · rw [if_pos (show Int32.ofNat d < 128 from (nlt_iff (b := 128) (by omega) (by omega)).mpr (by omega))]
    by_cases c0 : d = 0
    · subst c0
      rw [if_pos (by decide)]
      exact f19 s (by omega) h4
    · have e : Int32.ofNat d - 1 = Int32.ofNat (d - 1) := ofNat_sub1 (by omega) (by omega)
      rw [if_neg (fun q => by have := (nle_iff (b := 0) (by omega) (by omega)).mp q; omega), e, if_pos (aB_of (by omega) (by omega)), if_pos (aB_of (by omega) (by omega)), nx_eq]
      obtain ⟨s2, d2, g1, g2, g3, g4⟩ := f19 (wI s 119 (jN (Int32.ofNat (d - 1))) (sI s 119 (jN (Int32.ofNat (d - 1))) + 1)) (by omega) (by rw [sI_wI, if_neg (by omega)]; exact h4)
      exact ⟨s2, d2, g1, ((ch.refl wrC s).wI (by unfold wrC; omega)).trans g2, g3, g4⟩
set_option maxRecDepth 100000 in
theorem c156 {d : Nat} (x : Int32) (hd : d ≤ 128) (h4 : sI s 117 4 = Int32.ofNat d) : Wd (dm156 x s) s := by
  have f13 : ∀ (s : aS), sI s 117 4 = Int32.ofNat d → Wd (dm156_13 s) s := by
    intro s h4
    unfold dm156_13
    rw [h4]
    by_cases c0 : d = 0
    · subst c0
      rw [if_pos (by decide)]
      exact ⟨s, 0, rfl, ch.refl _ s, by omega, h4⟩
    · have e : Int32.ofNat d - 1 = Int32.ofNat (d - 1) := ofNat_sub1 (by omega) (by omega)
      rw [if_neg (fun q => by have := (nle_iff (b := 0) (by omega) (by omega)).mp q; omega), e, nx_eq]
      have e1 : sI (wI s 117 4 (Int32.ofNat (d - 1))) 117 4 = Int32.ofNat (d - 1) := by rw [sI_wI, if_pos ⟨rfl, rfl⟩]
      have c1 : ch wrC s (wI s 117 4 (Int32.ofNat (d - 1))) := (ch.refl wrC s).wI (by unfold wrC; omega)
      rw [e1, if_pos (aB_of (by omega) (by omega))]
      split
      · exact ⟨_, d - 1, rfl, c1, by omega, e1⟩
      · obtain ⟨s2, d2, g1, g2, g3, g4⟩ := (c141 41 (wI s 117 4 (Int32.ofNat (d - 1)))).d (d := d - 1) (K := fun s9 => some s9) (by omega) e1 fun s1 c1 e1 => ⟨s1, d - 1, rfl, ch.refl _ s1, by omega, e1⟩
        exact ⟨s2, d2, g1, c1.trans g2, g3, g4⟩
  unfold dm156
  split
  · exact (c141 37 s).d hd h4 fun s1 c1 e1 => f13 s1 e1
  · split
    · exact (c141 41 s).d hd h4 fun s1 c1 e1 => f13 s1 e1
    · exact f13 s h4
set_option maxRecDepth 100000 in
theorem c155 {d : Nat} (h : FS s b ns) (x y : Int32) (hd : d ≤ 128) (h4 : sI s 117 4 = Int32.ofNat d) : Wd (dm155 x y s) s := by
  have e85 : ∀ x, ∃ r, dm85 x = some r := fun x => by
    unfold dm85
    repeat' split
    all_goals exact ⟨_, rfl⟩
  have f28 : ∀ (k : Int32) (s : aS), FS s b ns → sI s 117 4 = Int32.ofNat d → Wd (dm155_28 y k s) s := by
    intro k s h h4
    have e158 : ∃ v, dm158 k y s = some v := by
      unfold dm158 dm158_24
      obtain ⟨r, er⟩ := e85 k
      obtain ⟨v0, e0, -⟩ := c57 h (sI s 117 6) 0 (by omega)
      have e0 : dm57 b (sI s 117 6) 0 s = some v0 := e0
      obtain ⟨r2, er2⟩ := e85 v0
      rw [er]
      simp only [bu_some]
      rw [h.1, vN_ref, if_pos h.2.1, e0]
      simp only [bu_some]
      rw [er2]
      simp only [bu_some]
      repeat' split
      all_goals exact ⟨_, rfl⟩
    obtain ⟨v, e⟩ := e158
    unfold dm155_28
    rw [e]
    simp only [bu_some]
    obtain ⟨s2, d2, g1, g2, g3, g4⟩ := c140 v hd h4
    rw [g1]
    exact ⟨s2, d2, rfl, g2, g3, g4⟩
  have f27 : ∀ (k : Int32) (c : Nat), c < 38 → Wd (dm155_27 y k (2 * c + 1) s) s := by
    intro k c hc
    unfold dm155_27
    exact (c147 h hc).d hd h4 fun s1 c1 e1 => f28 k s1 (h.of (dc c1)) e1
  obtain ⟨v0, e0, -⟩ := c57 h x 0 (by omega)
  obtain ⟨v1, e1, -⟩ := c57 h x 1 (by omega)
  have e0 : dm57 b x 0 s = some v0 := e0
  have e1 : dm57 b x 1 s = some v1 := e1
  unfold dm155
  rw [h.1, vN_ref, if_pos h.2.1, e0]
  simp only [bu_some, vN_ref]
  rw [if_pos h.2.1, e1]
  simp only [bu_some]
  by_cases q1 : y < v1
  · rw [if_pos q1]
    by_cases q2 : y ≤ 0
    · rw [if_pos q2]
      exact f28 v0 s h h4
    · rw [if_neg q2]
      by_cases q3 : v0 = 7
      · rw [if_pos q3]
        exact f27 v0 22 (by decide)
      · rw [if_neg q3]
        obtain ⟨k, hk, ek⟩ := c157 v0
        rw [ek]
        simp only [bu_some]
        show Wd (if aK s (2 * k + 1) 70 then dm155_27 y v0 (2 * k + 1) s else none) s
        rw [if_pos (h.2.2.2.2.2.2.2.2 k hk).1]
        exact f27 v0 k hk
  · rw [if_neg q1]
    obtain ⟨s2, d2, g1, g2, g3, g4⟩ := c156 v0 hd h4
    rw [g1]
    exact ⟨s2, d2, rfl, g2, g3, g4⟩
set_option maxRecDepth 100000 in
theorem c139l : ∀ (m q n d : Nat) (s : aS), FS s b ns → d ≤ 128 → sI s 117 4 = Int32.ofNat d → q + m = 384 → m < n → ∃ v s', dm139_23 n (Int32.ofNat q) s = some (v, s') ∧ ch wrC s s' := by
  intro m
  induction m with
  | zero =>
    intro q n d s h hd h4 h1 h2
    obtain ⟨n, rfl⟩ : ∃ q, n = q + 1 := ⟨n - 1, by omega⟩
    have : q = 384 := by omega
    subst this
    rw [dm139_23, if_pos (by decide)]
    exact ⟨_, s, rfl, ch.refl _ s⟩
  | succ m ih =>
    intro q n d s h hd h4 h1 h2
    obtain ⟨n, rfl⟩ : ∃ q, n = q + 1 := ⟨n - 1, by omega⟩
    rw [dm139_23, if_neg (fun z => by have := (nle_iff (a := 384) (by omega) (by omega)).mp z; omega), h4]
    by_cases c0 : d = 0
    · subst c0
      rw [if_pos (by decide)]
      exact ⟨_, s, rfl, ch.refl _ s⟩
    · have e : Int32.ofNat d - 1 = Int32.ofNat (d - 1) := ofNat_sub1 (by omega) (by omega)
      rw [if_neg (fun z => by have := (nle_iff (b := 0) (by omega) (by omega)).mp z; omega)]
      by_cases c1 : sI s 117 9 < sI s 117 8
      · rw [if_pos c1]
        exact ⟨_, s, rfl, ch.refl _ s⟩
      · rw [if_neg c1, e]
        unfold dm139_66
        rw [ofNat_succ (by omega)]
        by_cases c2 : sI s 117 7 = 0
        · rw [if_pos c2, if_pos (aB_of (by omega) (by omega)), if_pos (aB_of (by omega) (by omega))]
          obtain ⟨s2, d2, g1, g2, g3, g4⟩ := c155 h (sI s 118 (jN (Int32.ofNat (d - 1)))) (sI s 119 (jN (Int32.ofNat (d - 1)))) hd h4
          rw [g1]
          simp only [bu_some]
          obtain ⟨v, s3, y1, y2⟩ := ih (q + 1) n d2 s2 (h.of g2) g3 g4 (by omega) (by omega)
          exact ⟨v, s3, y1, g2.trans y2⟩
        · rw [if_neg c2, nx_eq]
          have e1 : sI (wI s 117 7 0) 117 4 = Int32.ofNat d := by rw [sI_wI, if_neg (by omega)]; exact h4
          have cc : ch wrC s (wI s 117 7 0) := (ch.refl wrC s).wI (by unfold wrC; omega)
          rw [e1, e, if_pos (aB_of (by omega) (by omega))]
          obtain ⟨s2, g1, g2⟩ := c142 (h.of cc) (sI (wI s 117 7 0) 118 (jN (Int32.ofNat (d - 1))))
          rw [g1]
          simp only [bu_some]
          obtain ⟨v, s3, y1, y2⟩ := ih (q + 1) n d s2 ((h.of cc).of (dc g2)) hd ((g2.i (by unfold wrD; omega)).trans e1) (by omega) (by omega)
          exact ⟨v, s3, y1, (cc.trans (dc g2)).trans y2⟩
end CW
set_option maxRecDepth 100000 in
/-- form of a tree: it comes to its end, and only the writer's own cells change -/
theorem c139 {s : aS} {b : Nat} {ns : List (List Int32)} (hb : aK s b 3) (hb2 : b = 102 ∨ 149 ≤ b) (hN : ∃ N u, N ≤ 128 ∧ sI s b 2 = Int32.ofNat N ∧ TL s b u ∧ ∀ k, k < N → ∃ l, NL s b k u l) (hT : (sT s (b + 3)).2 = 256) (hS : SC s ns) (hn : nsOk ns) (hR : RC s) (hA : AS s) (x : Int32) : ∃ v s', dm139 b x s = some (v, s') ∧ ch (fun a _ => 117 ≤ a ∧ a ≤ 120) s s' := by
  let s0 := wR s 117 5 (.ref b)
  have h0 : FS s0 b ns := ⟨by show sR (wR s 117 5 (.ref b)) 117 5 = .ref b; rw [sR_wR, if_pos ⟨rfl, rfl⟩], hb, hb2, hN, hT, hS, hn, hR, hA⟩
  have c0 : ch (fun a _ => 117 ≤ a ∧ a ≤ 120) s s0 := (ch.refl _ s).wR ⟨by omega, by omega⟩
  let s1 := wI (wI (wI (wI (wI s0 117 4 0) 117 6 0) 117 8 0) 117 9 x) 117 10 (-1)
  have c1 : ch wrC s0 s1 := (((((ch.refl wrC s0).wI (by unfold wrC; omega)).wI (by unfold wrC; omega)).wI (by unfold wrC; omega)).wI (by unfold wrC; omega)).wI (by unfold wrC; omega)
  have e1 : sI s1 117 4 = Int32.ofNat 0 := by
    show sI (wI (wI (wI (wI (wI s0 117 4 0) 117 6 0) 117 8 0) 117 9 x) 117 10 (-1)) 117 4 = _
    rw [sI_wI, if_neg (by omega), sI_wI, if_neg (by omega), sI_wI, if_neg (by omega), sI_wI, if_neg (by omega), sI_wI, if_pos ⟨rfl, rfl⟩]
    rfl
  unfold dm139
  simp only [nx_eq]
  obtain ⟨s2, d2, g1, g2, g3, g4⟩ := c140 (s := s1) 0 (by omega) e1
  show ∃ v s', bu (dm140 0 s1) (fun s27 => dm139_23 5000 0 s27) = some (v, s') ∧ _
  rw [g1]
  simp only [bu_some]
  obtain ⟨v, s3, y1, y2⟩ := c139l 384 0 5000 d2 s2 (h0.of (c1.trans g2)) g3 g4 (by omega) (by omega)
  exact ⟨v, s3, y1, c0.trans (((c1.trans g2).trans y2).mono fun a k z => by unfold wrC at z; omega)⟩
