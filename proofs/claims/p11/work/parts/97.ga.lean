section
/-! trees of FormulaTrees stay trees: lost nodes, moves, shifts -/
section KK
variable {s0 s : aS} {b i z9 : Nat} {t : List Int32} {ns : List (List Int32)}
def AB (b a : Nat) : Prop := a = b ∨ a = b + 1
set_option maxRecDepth 100000 in
theorem k58 {j N : Nat} (h : KW s0 s b i z9) (hb : b = 102 ∨ 149 ≤ b) (hN : sI s b 2 = Int32.ofNat N) (h8 : N ≤ 128) (hj : j < N) : ∃ s', dm58 b (Int32.ofNat j) s = some s' ∧ KW s0 s' b i z9 ∧ ch (fun a _ => a = b ∨ a = b + 1) s s' := by
  obtain ⟨s', a1, a2, a3⟩ := d58 hN h8 hj
  refine ⟨s', a1, ?_, a3.mono fun a k z => Or.inr z.1⟩
  obtain ⟨g1, g2, ⟨N', u, b1, b2, b3, b4, b5⟩, ⟨hd, c1, c2, c3⟩, ⟨m0, d1, d2⟩, o, e1, e2⟩ := h
  refine ⟨g1.trans (a3.mono fun a k z => by unfold AC; omega), (a3.i (by omega)).trans g2, ⟨N', u, b1, (a3.i (by omega)).trans b2, b3.of a3 (by omega) (fun k => by omega), b4, fun q hq => ?_⟩, ⟨hd, c1.of a3 (by omega) (fun k => by omega), c2, c3⟩, ⟨m0, d1, (a3.i (by omega)).trans d2⟩, o, e1, (a3.i (by omega)).trans e2⟩
  by_cases c : q = j
  · subst c
    exact ⟨[], ⟨0, a2 9 (by decide), a2 10 (by decide), Nat.zero_le _, fun j hj => absurd hj (Nat.not_lt_zero j)⟩, fun y hy => (by cases hy)⟩
  · obtain ⟨l, ⟨st, r1, r2, r3, r4⟩, r5⟩ := b5 q hq
    exact ⟨l, ⟨st, (a3.i (by omega)).trans r1, (a3.i (by omega)).trans r2, r3, r4⟩, r5⟩
set_option maxRecDepth 100000 in
theorem abN {s s' : aS} (c : ch (fun a q => (a = b ∧ q ≠ 2) ∨ a = b + 1) s s') : sI s' b 2 = sI s b 2 := c.i (by omega)
/-- what keeps the count of nodes -/
def KN (s0 s : aS) (b i z9 N : Nat) : Prop := KW s0 s b i z9 ∧ sI s b 2 = Int32.ofNat N
set_option maxRecDepth 100000 in
theorem k60n {N w : Nat} (h : KN s0 s b i z9 N) (hb : b = 102 ∨ 149 ≤ b) (x v : Int32) (hw : w < 9) : ∃ s', dm60 b x (Int32.ofNat w) v s = some s' ∧ KN s0 s' b i z9 N ∧ ch (fun a _ => a = b + 1) s s' := by
  obtain ⟨s', a1, a2, a3⟩ := k60 h.1 hb x v w hw
  have key : ch (fun a _ => a = b + 1) s s' := by
    unfold dm60 at a1
    repeat' split at a1
    all_goals first
      | (have a1 := Option.some.inj a1; subst a1; exact ch.refl _ s)
      | (rw [nx_eq] at a1; have a1 := Option.some.inj a1; subst a1; exact (ch.refl _ s).wI rfl)
      | cases a1
  exact ⟨s', a1, ⟨a2, (key.i (by omega)).trans h.2⟩, key⟩
set_option maxRecDepth 100000 in
theorem k58n {N j : Nat} (h : KN s0 s b i z9 N) (hb : b = 102 ∨ 149 ≤ b) (h8 : N ≤ 128) (hj : j < N) : ∃ s', dm58 b (Int32.ofNat j) s = some s' ∧ KN s0 s' b i z9 N ∧ ch (fun a _ => a = b + 1) s s' := by
  obtain ⟨s', a1, a2, a3⟩ := k58 h.1 hb h.2 h8 hj
  obtain ⟨s2, c1, c2, c3⟩ := d58 h.2 h8 hj
  rw [a1] at c1
  cases c1
  have key : ch (fun a _ => a = b + 1) s s' := c3.mono fun a k z => z.1
  exact ⟨s', a1, ⟨a2, (key.i (by omega)).trans h.2⟩, key⟩
set_option maxRecDepth 100000 in
theorem k56 {N : Nat} (h : KN s0 s b i z9 N) (hb : b = 102 ∨ 149 ≤ b) (h8 : N ≤ 128) (x : Int32) : ∃ s', dm56 b x s = some s' ∧ KN s0 s' b i z9 N ∧ ch (fun a _ => a = b + 1) s s' := by
  have loop : ∀ (m j n : Nat) (s : aS), KN s0 s b i z9 N → j + m = N → m < n → ∃ s', dm56_2 n b x (Int32.ofNat j) s = some s' ∧ KN s0 s' b i z9 N ∧ ch (fun a _ => a = b + 1) s s' := by
    intro m
    induction m with
    | zero =>
      intro j n s h h1 h2
      obtain ⟨n, rfl⟩ : ∃ q, n = q + 1 := ⟨n - 1, by omega⟩
      rw [dm56_2, h.2, if_pos ((nle_iff (by omega) (by omega)).mpr (by omega))]
      exact ⟨s, rfl, h, ch.refl _ s⟩
    | succ m ih =>
      intro j n s h h1 h2
      obtain ⟨n, rfl⟩ : ∃ q, n = q + 1 := ⟨n - 1, by omega⟩
      obtain ⟨v, e⟩ := k57 h.1 (Int32.ofNat j) 2 (by omega)
      have e : dm57 b (Int32.ofNat j) 2 s = some v := e
      rw [dm56_2, h.2, if_neg (fun q => by have := (nle_iff (by omega) (by omega)).mp q; omega), e]
      simp only [bu_some]
      unfold dm56_28
      rw [ofNat_succ (by omega)]
      split
      · obtain ⟨s1, a1, a2, a3⟩ := k58n h hb h8 (show j < N by omega)
        rw [a1]
        simp only [bu_some]
        obtain ⟨s2, c1, c2, c3⟩ := ih (j + 1) n s1 a2 (by omega) (by omega)
        exact ⟨s2, c1, c2, a3.trans c3⟩
      · split
        · exact ih (j + 1) n s h (by omega) (by omega)
        · obtain ⟨s1, a1, a2, a3⟩ := k60n (w := 2) h hb (Int32.ofNat j) (v - 1) (by omega)
          have a1 : dm60 b (Int32.ofNat j) 2 (v - 1) s = some s1 := a1
          rw [a1]
          simp only [bu_some]
          obtain ⟨s2, c1, c2, c3⟩ := ih (j + 1) n s1 a2 (by omega) (by omega)
          exact ⟨s2, c1, c2, a3.trans c3⟩
  exact loop N 0 5000 s h (by omega) (by omega)
set_option maxRecDepth 100000 in
theorem k101n {N : Nat} (h : KN s0 s b i z9 N) (hb : b = 102 ∨ 149 ≤ b) (x : Int32) : ∃ s', dm101 b x s = some s' ∧ KN s0 s' b i z9 N ∧ ch (fun a _ => a = b + 1) s s' := by
  have e102 : ∀ (w : Nat) (s : aS), (w = 3 ∨ w = 4) → KN s0 s b i z9 N → ∃ s', dm102 b x (Int32.ofNat w) s = some s' ∧ KN s0 s' b i z9 N ∧ ch (fun a _ => a = b + 1) s s' := by
    intro w s hw h
    have e2 : Int32.ofNat w + 2 = Int32.ofNat (w + 2) := iSum (i := w) (j := 2) (by omega) (by omega)
    obtain ⟨v1, q1⟩ := k57 h.1 x w (by omega)
    obtain ⟨v2, q2⟩ := k57 h.1 x (w + 2) (by omega)
    unfold dm102
    rw [e2, q1]
    simp only [bu_some]
    rw [q2]
    simp only [bu_some]
    obtain ⟨s1, a1, a2, a3⟩ := k60n (w := w) h hb x v2 (by omega)
    rw [a1]
    simp only [bu_some]
    obtain ⟨s2, b1, b2, b3⟩ := k60n (w := w + 2) a2 hb x v1 (by omega)
    rw [b1]
    simp only [bu_some]
    have f28 : ∀ y, ∃ s', dm102_28 b x y s2 = some s' ∧ KN s0 s' b i z9 N ∧ ch (fun a _ => a = b + 1) s s' := by
      intro y
      obtain ⟨v3, q3⟩ := k57 b2.1 x 7 (by omega)
      have q3 : dm57 b x 7 s2 = some v3 := q3
      unfold dm102_28
      rw [q3]
      simp only [bu_some]
      obtain ⟨s3, c1, c2, c3⟩ := k60n (w := 7) b2 hb x (((v3 &&& ((y * 5) ^^^ (-1))) + ((v3 &&& y) * 4)) + ((v3 &&& (y * 4)) / 4)) (by omega)
      have c1 : dm60 b x 7 (((v3 &&& ((y * 5) ^^^ (-1))) + ((v3 &&& y) * 4)) + ((v3 &&& (y * 4)) / 4)) s2 = some s3 := c1
      rw [c1]
      exact ⟨s3, rfl, c2, (a3.trans b3).trans c3⟩
    split
    · exact f28 1
    · exact f28 2
  have f13 : ∀ s, KN s0 s b i z9 N → ∃ s', dm101_13 b x s = some s' ∧ KN s0 s' b i z9 N ∧ ch (fun a _ => a = b + 1) s s' := by
    intro s h
    obtain ⟨v1, q1⟩ := k57 h.1 x 4 (by omega)
    obtain ⟨v2, q2⟩ := k57 h.1 x 6 (by omega)
    have q1 : dm57 b x 4 s = some v1 := q1
    have q2 : dm57 b x 6 s = some v2 := q2
    unfold dm101_13
    rw [q1]
    simp only [bu_some]
    rw [q2]
    simp only [bu_some]
    split
    · exact ⟨s, rfl, h, ch.refl _ s⟩
    · obtain ⟨s1, a1, a2, a3⟩ := e102 4 s (Or.inr rfl) h
      have a1 : dm102 b x 4 s = some s1 := a1
      rw [a1]
      exact ⟨s1, rfl, a2, a3⟩
  obtain ⟨v1, q1⟩ := k57 h.1 x 3 (by omega)
  obtain ⟨v2, q2⟩ := k57 h.1 x 5 (by omega)
  have q1 : dm57 b x 3 s = some v1 := q1
  have q2 : dm57 b x 5 s = some v2 := q2
  unfold dm101
  rw [q1]
  simp only [bu_some]
  rw [q2]
  simp only [bu_some]
  split
  · exact f13 s h
  · obtain ⟨s1, a1, a2, a3⟩ := e102 3 s (Or.inl rfl) h
    have a1 : dm102 b x 3 s = some s1 := a1
    rw [a1]
    simp only [bu_some]
    obtain ⟨s2, b1, b2, b3⟩ := f13 s1 a2
    exact ⟨s2, b1, b2, a3.trans b3⟩
set_option maxRecDepth 100000 in
theorem k129 (h : KW s0 s b i z9) (x : Int32) : ∃ v, dm129 b x s = some v := by
  obtain ⟨v, q⟩ := k57 h x 0 (by omega)
  have q : dm57 b x 0 s = some v := q
  unfold dm129 dm129_12
  rw [q]
  simp only [bu_some]
  repeat' split
  all_goals exact ⟨_, rfl⟩
set_option maxRecDepth 100000 in
theorem k131 (h : KW s0 s b i z9) (x y : Int32) : ∃ v, dm131 b x y s = some v := by
  obtain ⟨v, q⟩ := k57 h x 0 (by omega)
  have q : dm57 b x 0 s = some v := q
  obtain ⟨v7, q7⟩ := k57 h x 7 (by omega)
  have q7 : dm57 b x 7 s = some v7 := q7
  unfold dm131 dm131_9 dm131_12 dm131_19 dm131_22 dm131_28 dm131_33
  rw [q, q7]
  simp only [bu_some]
  repeat' split
  all_goals exact ⟨_, rfl⟩
set_option maxRecDepth 100000 in
theorem k130 {N j : Nat} (h : KN s0 s b i z9 N) (hb : b = 102 ∨ 149 ≤ b) (h8 : N ≤ 128) (hj : j < N) (x y : Int32) : ∃ s', dm130 b (Int32.ofNat j) x y s = some s' ∧ KN s0 s' b i z9 N ∧ ch (fun a _ => a = b + 1) s s' := by
  have f55 : ∀ (z : Int32) (s : aS), KN s0 s b i z9 N → ∃ s', dm130_55 b (Int32.ofNat j) z s = some s' ∧ KN s0 s' b i z9 N ∧ ch (fun a _ => a = b + 1) s s' := by
    intro z s h
    unfold dm130_55
    split
    · obtain ⟨s1, a1, a2, a3⟩ := k58n h hb h8 hj
      rw [a1]
      exact ⟨s1, rfl, a2, a3⟩
    · obtain ⟨s1, a1, a2, a3⟩ := k101n h hb (Int32.ofNat j)
      rw [a1]
      exact ⟨s1, rfl, a2, a3⟩
  have loop : ∀ (m w n : Nat) (z : Int32) (s : aS), KN s0 s b i z9 N → w + m = 7 → 3 ≤ w → m < n → ∃ s', dm130_4 n b (Int32.ofNat j) x y z (Int32.ofNat w) s = some s' ∧ KN s0 s' b i z9 N ∧ ch (fun a _ => a = b + 1) s s' := by
    intro m
    induction m with
    | zero =>
      intro w n z s h h1 h2 h3
      obtain ⟨n, rfl⟩ : ∃ q, n = q + 1 := ⟨n - 1, by omega⟩
      have : w = 7 := by omega
      subst this
      rw [dm130_4, if_pos (by decide)]
      exact f55 z s h
    | succ m ih =>
      intro w n z s h h1 h2 h3
      obtain ⟨n, rfl⟩ : ∃ q, n = q + 1 := ⟨n - 1, by omega⟩
      have f47 : ∀ (v c : Int32), ∃ s', dm130_47 (dm130_4 n) b (Int32.ofNat j) x y (Int32.ofNat w) v c s = some s' ∧ KN s0 s' b i z9 N ∧ ch (fun a _ => a = b + 1) s s' := by
        intro v c
        obtain ⟨s1, a1, a2, a3⟩ := k60n (w := w) h hb (Int32.ofNat j) v (by omega)
        unfold dm130_47
        rw [a1]
        simp only [bu_some]
        rw [ofNat_succ (by omega)]
        obtain ⟨s2, c1, c2, c3⟩ := ih (w + 1) n c s1 a2 (by omega) (by omega) (by omega)
        exact ⟨s2, c1, c2, a3.trans c3⟩
      have f37 : ∀ (r v : Int32), ∃ s', dm130_37 (dm130_4 n) b (Int32.ofNat j) x y (Int32.ofNat w) r v s = some s' ∧ KN s0 s' b i z9 N ∧ ch (fun a _ => a = b + 1) s s' := by
        intro r v
        unfold dm130_37 dm130_46
        have e132 : ∃ q, dm132 r = some q := by
          unfold dm132
          split <;> exact ⟨_, rfl⟩
        obtain ⟨q, eq⟩ := e132
        rw [eq]
        simp only [bu_some]
        split
        · exact f47 v 0
        · split
          · exact f47 v 0
          · exact f47 v 1
      have f18 : ∀ (r : Int32), ∃ s', dm130_18 (dm130_4 n) b (Int32.ofNat j) x y (Int32.ofNat w) r s = some s' ∧ KN s0 s' b i z9 N ∧ ch (fun a _ => a = b + 1) s s' := by
        intro r
        obtain ⟨v, e1⟩ := k57 h.1 (Int32.ofNat j) w (by omega)
        obtain ⟨v2, e2⟩ := k131 h.1 (Int32.ofNat j) (Int32.ofNat w)
        unfold dm130_18 dm130_35
        rw [e1]
        simp only [bu_some]
        rw [e2]
        simp only [bu_some]
        split
        · split
          · exact f37 _ _
          · exact f37 _ _
        · exact f37 _ _
      rw [dm130_4, if_neg (fun q => by have := (nlt_iff (a := 6) (by omega) (by omega)).mp q; omega)]
      unfold dm130_15
      split
      · exact f55 z s h
      · split
        · exact f18 1
        · split
          · exact f18 1
          · exact f18 0
  exact loop 4 3 5000 1 s h (by omega) (by omega) (by omega)
set_option maxRecDepth 100000 in
theorem k128 {N : Nat} (h : KN s0 s b i z9 N) (hb : b = 102 ∨ 149 ≤ b) (h8 : N ≤ 128) (x y : Int32) : ∃ s', dm128 b x y s = some s' ∧ KN s0 s' b i z9 N ∧ ch (fun a _ => a = b + 1) s s' := by
  have loop : ∀ (m j n : Nat) (s : aS), KN s0 s b i z9 N → j + m = N → m < n → ∃ s', dm128_2 n b x y (Int32.ofNat j) s = some s' ∧ KN s0 s' b i z9 N ∧ ch (fun a _ => a = b + 1) s s' := by
    intro m
    induction m with
    | zero =>
      intro j n s h h1 h2
      obtain ⟨n, rfl⟩ : ∃ q, n = q + 1 := ⟨n - 1, by omega⟩
      rw [dm128_2, h.2, if_pos ((nle_iff (by omega) (by omega)).mpr (by omega))]
      exact ⟨s, rfl, h, ch.refl _ s⟩
    | succ m ih =>
      intro j n s h h1 h2
      obtain ⟨n, rfl⟩ : ∃ q, n = q + 1 := ⟨n - 1, by omega⟩
      obtain ⟨v, e⟩ := k129 h.1 (Int32.ofNat j)
      rw [dm128_2, h.2, if_neg (fun q => by have := (nle_iff (by omega) (by omega)).mp q; omega), e]
      simp only [bu_some]
      unfold dm128_15
      rw [ofNat_succ (by omega)]
      split
      · exact ih (j + 1) n s h (by omega) (by omega)
      · obtain ⟨s1, a1, a2, a3⟩ := k130 h hb h8 (show j < N by omega) x y
        rw [a1]
        simp only [bu_some]
        obtain ⟨s2, c1, c2, c3⟩ := ih (j + 1) n s1 a2 (by omega) (by omega)
        exact ⟨s2, c1, c2, a3.trans c3⟩
  exact loop N 0 5000 s h (by omega) (by omega)
end KK
end
section
/-! shifts keep trees trees; a tree becomes another -/
section KK
variable {s0 s : aS} {b i z9 : Nat} {t : List Int32} {ns : List (List Int32)}
/-- how a method on a tree comes to its end -/
def KX (s0 s : aS) (b i z9 N : Nat) (D : Option (Int32 × aS)) : Prop := ∃ v s', D = some (v, s') ∧ KN s0 s' b i z9 N ∧ ch (fun a _ => a = b + 1) s s'
set_option maxRecDepth 100000 in
theorem e132 (x : Int32) : ∃ v, dm132 x = some v := by
  unfold dm132
  split <;> exact ⟨_, rfl⟩
set_option maxRecDepth 100000 in
theorem k136 {N : Nat} (h : KN s0 s b i z9 N) (hb : b = 102 ∨ 149 ≤ b) (x x2 x3 x4 : Int32) : KX s0 s b i z9 N (dm136 b x x2 x3 x4 s) := by
  obtain ⟨r, er⟩ := e132 x2
  have f52 : ∀ (x5 x6 : Int32) (w : Nat) (s : aS), w < 9 → KN s0 s b i z9 N → KX s0 s b i z9 N (dm136_52 x2 x5 x6 b x (Int32.ofNat w) s) := by
    intro x5 x6 w s hw h
    unfold dm136_52
    rw [er]
    simp only [bu_some]
    obtain ⟨s1, a1, a2, a3⟩ := k60n (w := w) h hb x (if r < x6 then r else x6) hw
    rw [a1]
    simp only [bu_some]
    split
    · exact ⟨_, s1, rfl, a2, a3⟩
    · exact ⟨_, s1, rfl, a2, a3⟩
  have f43 : ∀ (x5 x6 : Int32) (w : Nat) (s : aS), w < 9 → KN s0 s b i z9 N → KX s0 s b i z9 N (dm136_43 b x x2 x5 x6 b x (Int32.ofNat w) s) := by
    intro x5 x6 w s hw h
    unfold dm136_43
    obtain ⟨s1, a1, a2, a3⟩ := k60n (w := w) h hb x x5 hw
    rw [a1]
    simp only [bu_some]
    split
    · obtain ⟨v, s2, c1, c2, c3⟩ := f52 x5 x6 6 s1 (by omega) a2
      exact ⟨v, s2, c1, c2, a3.trans c3⟩
    · obtain ⟨v, s2, c1, c2, c3⟩ := f52 x5 x6 5 s1 (by omega) a2
      exact ⟨v, s2, c1, c2, a3.trans c3⟩
  have f34 : ∀ (x5 y0 y1 : Int32), KX s0 s b i z9 N (dm136_34 b x x2 x5 y0 y1 s) := by
    intro x5 y0 y1
    unfold dm136_34
    split
    · exact f43 x5 (y0 + y1) 4 s (by omega) h
    · exact f43 x5 (y0 + y1) 3 s (by omega) h
  have f25 : ∀ (x6 y0 y1 : Int32), KX s0 s b i z9 N (dm136_25 b x x2 x3 x4 x6 y0 y1 s) := by
    intro x6 y0 y1
    unfold dm136_25
    split
    · exact f34 _ _ _
    · exact f34 _ _ _
  have f16 : ∀ (x5 : Int32) (w : Nat), w < 9 → KX s0 s b i z9 N (dm136_16 b x x2 x3 x4 x5 b x (Int32.ofNat w) s) := by
    intro x5 w hw
    unfold dm136_16
    obtain ⟨v, e⟩ := k57 h.1 x w (by omega)
    rw [e]
    simp only [bu_some]
    split
    · exact f25 _ _ _
    · exact f25 _ _ _
  have f7 : ∀ (w : Nat), w < 9 → KX s0 s b i z9 N (dm136_7 b x x2 x3 x4 b x (Int32.ofNat w) s) := by
    intro w hw
    unfold dm136_7
    obtain ⟨v, e⟩ := k57 h.1 x w (by omega)
    rw [e]
    simp only [bu_some]
    split
    · exact f16 v 6 (by omega)
    · exact f16 v 5 (by omega)
  unfold dm136
  split
  · exact f7 4 (by omega)
  · exact f7 3 (by omega)
set_option maxRecDepth 100000 in
theorem k135 {N : Nat} (h : KN s0 s b i z9 N) (hb : b = 102 ∨ 149 ≤ b) (x x2 x3 x4 : Int32) : KX s0 s b i z9 N (dm135 b x x2 x3 x4 s) := by
  have f68 : ∀ (x6 x8 : Int32) (w : Nat) (s : aS), (x8 = 0 ∨ x8 = 1) → w < 9 → KN s0 s b i z9 N → KX s0 s b i z9 N (dm135_68 x6 x8 b x (Int32.ofNat w) s) := by
    intro x6 x8 w s h8 hw h
    unfold dm135_68
    obtain ⟨s1, a1, a2, a3⟩ := k60n (w := w) h hb x x6 hw
    rw [a1]
    simp only [bu_some]
    rw [if_pos h8]
    exact ⟨_, s1, rfl, a2, a3⟩
  have f59 : ∀ (x5 x6 x8 : Int32) (w : Nat) (s : aS), (x8 = 0 ∨ x8 = 1) → w < 9 → KN s0 s b i z9 N → KX s0 s b i z9 N (dm135_59 b x x2 x5 x6 x8 b x (Int32.ofNat w) s) := by
    intro x5 x6 x8 w s h8 hw h
    unfold dm135_59
    obtain ⟨s1, a1, a2, a3⟩ := k60n (w := w) h hb x x5 hw
    rw [a1]
    simp only [bu_some]
    split
    · obtain ⟨v, s2, c1, c2, c3⟩ := f68 x6 x8 6 s1 h8 (by omega) a2
      exact ⟨v, s2, c1, c2, a3.trans c3⟩
    · obtain ⟨v, s2, c1, c2, c3⟩ := f68 x6 x8 5 s1 h8 (by omega) a2
      exact ⟨v, s2, c1, c2, a3.trans c3⟩
  have f52 : ∀ (x5 x6 x8 : Int32), (x8 = 0 ∨ x8 = 1) → KX s0 s b i z9 N (dm135_52 b x x2 x5 x6 x8 s) := by
    intro x5 x6 x8 h8
    unfold dm135_52
    split
    · exact f59 x5 x6 x8 4 s h8 (by omega) h
    · exact f59 x5 x6 x8 3 s h8 (by omega) h
  have f41 : ∀ (x5 x6 x8 : Int32), (x8 = 0 ∨ x8 = 1) → KX s0 s b i z9 N (dm135_41 b x x2 x3 x4 x5 x6 x8 s) := by
    intro x5 x6 x8 h8
    unfold dm135_41
    split
    · exact f52 _ _ _ h8
    · exact f52 _ _ _ h8
  have f31 : ∀ (x5 x6 x8 : Int32), (x8 = 0 ∨ x8 = 1) → KX s0 s b i z9 N (dm135_31 b x x2 x3 x4 x5 x6 x8 s) := by
    intro x5 x6 x8 h8
    unfold dm135_31
    split
    · exact f41 _ _ _ h8
    · exact f41 _ _ _ h8
  have f16 : ∀ (x5 : Int32) (w : Nat), w < 9 → KX s0 s b i z9 N (dm135_16 b x x2 x3 x4 x5 b x (Int32.ofNat w) s) := by
    intro x5 w hw
    unfold dm135_16 dm135_28
    obtain ⟨v, e⟩ := k57 h.1 x w (by omega)
    rw [e]
    simp only [bu_some]
    split
    · exact f31 _ _ _ (Or.inr rfl)
    · split
      · exact f31 _ _ _ (Or.inl rfl)
      · exact f31 _ _ _ (Or.inr rfl)
  have f7 : ∀ (w : Nat), w < 9 → KX s0 s b i z9 N (dm135_7 b x x2 x3 x4 b x (Int32.ofNat w) s) := by
    intro w hw
    unfold dm135_7
    obtain ⟨v, e⟩ := k57 h.1 x w (by omega)
    rw [e]
    simp only [bu_some]
    split
    · exact f16 v 6 (by omega)
    · exact f16 v 5 (by omega)
  unfold dm135
  split
  · exact f7 4 (by omega)
  · exact f7 3 (by omega)
set_option maxRecDepth 100000 in
theorem k134 {N : Nat} (h : KN s0 s b i z9 N) (hb : b = 102 ∨ 149 ≤ b) (h8 : N ≤ 128) (x1 x2 x3 x4 x5 : Int32) : KX s0 s b i z9 N (dm134 b x1 x2 x3 x4 x5 s) := by
  have loop : ∀ (m j n : Nat) (x6 : Int32) (s : aS), KN s0 s b i z9 N → j + m = N → m < n → KX s0 s b i z9 N (dm134_4 n b x1 x2 x3 x4 x5 x6 (Int32.ofNat j) s) := by
    intro m
    induction m with
    | zero =>
      intro j n x6 s h h1 h2
      obtain ⟨n, rfl⟩ : ∃ q, n = q + 1 := ⟨n - 1, by omega⟩
      rw [dm134_4, h.2, if_pos ((nle_iff (by omega) (by omega)).mpr (by omega))]
      exact ⟨_, s, rfl, h, ch.refl _ s⟩
    | succ m ih =>
      intro j n x6 s h h1 h2
      obtain ⟨n, rfl⟩ : ∃ q, n = q + 1 := ⟨n - 1, by omega⟩
      have f48 : ∀ (x6 : Int32) (s : aS), KN s0 s b i z9 N → KX s0 s b i z9 N (dm134_48 (dm134_4 n) b x1 x2 x3 x4 x5 x6 (Int32.ofNat j) s) := by
        intro x6 s h
        unfold dm134_48
        rw [ofNat_succ (by omega)]
        exact ih (j + 1) n x6 s h (by omega) (by omega)
      have f41 : ∀ (y : Int32) (s : aS), KN s0 s b i z9 N → KX s0 s b i z9 N (dm134_41 (dm134_4 n) b x1 x2 x3 x4 x5 x6 (Int32.ofNat j) y s) := by
        intro y s h
        unfold dm134_41
        split
        · obtain ⟨s1, a1, a2, a3⟩ := k58n h hb h8 (show j < N by omega)
          rw [a1]
          simp only [bu_some]
          obtain ⟨v, s2, c1, c2, c3⟩ := f48 (x6 + 1) s1 a2
          exact ⟨v, s2, c1, c2, a3.trans c3⟩
        · exact f48 x6 s h
      have f25 : KX s0 s b i z9 N (dm134_25 (dm134_4 n) b x1 x2 x3 x4 x5 x6 (Int32.ofNat j) s) := by
        unfold dm134_25
        split
        · obtain ⟨v, s1, a1, a2, a3⟩ := k136 h hb (Int32.ofNat j) x3 x4 x5
          rw [a1]
          simp only [bv_some]
          obtain ⟨v, s2, c1, c2, c3⟩ := f41 v s1 a2
          exact ⟨v, s2, c1, c2, a3.trans c3⟩
        · obtain ⟨v, s1, a1, a2, a3⟩ := k135 h hb (Int32.ofNat j) x3 x4 (-x5)
          rw [a1]
          simp only [bv_some]
          obtain ⟨v, s2, c1, c2, c3⟩ := f41 v s1 a2
          exact ⟨v, s2, c1, c2, a3.trans c3⟩
      obtain ⟨v, e⟩ := k57 h.1 (Int32.ofNat j) 2 (by omega)
      have e : dm57 b (Int32.ofNat j) 2 s = some v := e
      obtain ⟨v2, e2⟩ := k129 h.1 (Int32.ofNat j)
      rw [dm134_4, h.2, if_neg (fun q => by have := (nle_iff (by omega) (by omega)).mp q; omega), e]
      simp only [bu_some]
      rw [e2]
      simp only [bu_some]
      split
      · exact f48 x6 s h
      · split
        · exact f25
        · split
          · split
            · exact f48 x6 s h
            · exact f25
          · exact f48 x6 s h
  exact loop N 0 5000 0 s h (by omega) (by omega)
/-- what is a tree, weakly -/
def TW (s : aS) (b : Nat) : Prop := ∃ N u, N ≤ 128 ∧ sI s b 2 = Int32.ofNat N ∧ TL s b u ∧ ∀ k, k < N → ∃ l, NL s b k u l ∧ okT l
set_option maxRecDepth 100000 in
theorem KD.w (h : KD s b i) : TW s b := by
  obtain ⟨⟨N, u, a1, a2, a3, -, a5⟩, -⟩ := h
  exact ⟨N, u, a1, a2, a3, a5⟩
set_option maxRecDepth 100000 in
theorem TW.of {A : Nat → Nat → Prop} {s s1 : aS} {b : Nat} (h : TW s b) (g : ch A s s1) (h0 : ¬ A b 2) (h1 : ∀ k, ¬ A (b + 1) k) (h2 : ¬ A (b + 2) 1) (h3 : ∀ k, ¬ A (b + 3) k) : TW s1 b := by
  obtain ⟨N, u, a1, a2, a3, a5⟩ := h
  refine ⟨N, u, a1, (g.i h0).trans a2, a3.of g h2 h3, fun k hk => ?_⟩
  obtain ⟨l, ⟨st, e1, e2, e3, e4⟩, e5⟩ := a5 k hk
  exact ⟨l, ⟨st, (g.i (h1 _)).trans e1, (g.i (h1 _)).trans e2, e3, e4⟩, e5⟩
set_option maxRecDepth 100000 in
theorem k127 {tt : Nat} {cc : Nat → Nat → Int32} {s : aS} {b c : Nat} (hl : Ly tt cc s) (hb : aK s b 3) (hc : aK s c 3) (hbc : b ≠ c) (h : TW s c) : ∃ s', dm127 b c s = some s' ∧ TW s' b ∧ ch (fun a _ => a = b ∨ a = b + 1 ∨ a = b + 2 ∨ a = b + 3) s s' := by
  obtain ⟨N, u, a1, a2, hu, a5⟩ := h
  have ap := tr_ne hl hb hc hbc
  have b3 := (hl.tr hb).2.2.2.2.2.2.1
  have c3 := (hl.tr hc).2.2.2.2.2.2.1
  have b0 := (hl.tr hb).1
  have j0 : jN 0 = 0 := rfl
  have j1 : jN 1408 = 1408 := rfl
  have n1 : b ≠ c + 1 := by
    rintro e
    have := (hl.tr hc).2.2.2.2.1
    rw [← e, b0] at this
    cases this
  have n2 : b ≠ c + 2 := by
    rintro e
    have := (hl.tr hc).2.2.2.2.2.1
    rw [← e, b0] at this
    cases this
  have n3 : b ≠ c + 3 := by
    rintro e
    rw [← e, b0] at c3
    cases c3
  have hc1 : ch (fun a _ => a = b ∨ a = b + 1 ∨ a = b + 2 ∨ a = b + 3) s (cpI (wI s b 2 (sI s c 2)) (c + 1) 0 (b + 1) 0 1408) := ch_cp ((ch.refl _ s).wI (Or.inl rfl)) (fun _ => Or.inr (Or.inl rfl))
  have hu1 : LT (cpI (wI s b 2 (sI s c 2)) (c + 1) 0 (b + 1) 0 1408) (c + 2) u := hu.1.of hc1 (by omega) (fun _ => by omega)
  obtain ⟨s', g1, g2, g3⟩ := d41 (b0 := b + 2) (m := 256) hu1 (by omega) (by rw [hc1.2.1, show b + 2 + 1 = b + 3 from rfl, b3]) (by rw [hc1.2.1, show c + 2 + 1 = c + 3 from rfl, c3]; exact hu.2.1) (by decide) hu.2.1 hu.2.2
  have hf : ∀ q, q < 1408 → sI s' (b + 1) q = sI s (c + 1) q := by
    intro q hq
    rw [g3.i (by omega), sI_cp, if_pos ⟨rfl, by omega, by omega⟩, Nat.zero_add, Nat.sub_zero, sI_wI, if_neg (by omega)]
  refine ⟨s', ?_, ⟨N, u, a1, ?_, ⟨g2, hu.2⟩, fun k hk => ?_⟩, hc1.trans (g3.mono fun a k q => by omega)⟩
  · unfold dm127
    rw [nx_eq, if_pos ⟨by omega, by decide, by decide, by decide, by decide, by decide⟩, nx_eq, j0, j1, g1]
    rfl
  · rw [g3.i (by omega), sI_cp, if_neg (by omega), sI_wI, if_pos ⟨rfl, rfl⟩]
    exact a2
  · obtain ⟨l, ⟨st, r1, r2, r3, r4⟩, r5⟩ := a5 k hk
    exact ⟨l, ⟨st, (hf _ (by omega)).trans r1, (hf _ (by omega)).trans r2, r3, r4⟩, r5⟩
end KK
end
section
/-! what holds of FormulaTrees between calls, weakly: every tree is one -/
def RD (s : aS) : Prop := (∃ hd, LT s 107 hd ∧ hd.length ≤ 256 ∧ okT hd) ∧ (∃ m, m ≤ 128 ∧ sI s 110 2 = Int32.ofNat m) ∧ ∃ o, o ≤ 32 ∧ sI s 113 3 = Int32.ofNat o
def CV (s : aS) (t : List Int32) (ns : List (List Int32)) : Prop := (LT s 79 t ∧ t.length ≤ 256 ∧ okT t) ∧ (SQ s ns ∧ nsOk ns) ∧ TD s ∧ (∀ b, aK s b 3 → TW s b) ∧ RD s
section CVs
variable {tt : Nat} {cc : Nat → Nat → Int32} {s s1 : aS} {t : List Int32} {ns : List (List Int32)} {A : Nat → Nat → Prop} {b : Nat}
set_option maxRecDepth 100000 in
theorem SQ.of (h : SQ s ns) (h8 : ns.length ≤ 8) (g : ch A s s1) (hA : ∀ a k, A a k → a < 81 ∨ 99 < a) : SQ s1 ns := ⟨⟨(g.i fun q => by have := hA _ _ q; omega).trans h.1.1, fun i hi => (h.1.2 i hi).of g (fun q => by have := hA _ _ q; omega) (fun j q => by have := hA _ _ q; omega)⟩, fun i hi => (g.i fun q => by have := hA _ _ q; omega).trans (h.2 i hi)⟩
set_option maxRecDepth 100000 in
theorem RD.of (h : RD s) (g : ch A s s1) (hA : ∀ a k, A a k → a < 107 ∨ 116 < a) : RD s1 := by
  obtain ⟨⟨hd, a1, a2, a3⟩, ⟨m, b1, b2⟩, o, c1, c2⟩ := h
  exact ⟨⟨hd, a1.of g (fun q => by have := hA _ _ q; omega) (fun j q => by have := hA _ _ q; omega), a2, a3⟩, ⟨m, b1, (g.i fun q => by have := hA _ _ q; omega).trans b2⟩, o, c1, (g.i fun q => by have := hA _ _ q; omega).trans c2⟩
set_option maxRecDepth 100000 in
/-- what lies in no tree -/
theorem CV.of (h : CV s t ns) (hl : Ly tt cc s) (g : ch A s s1) (hA : ∀ a k, A a k → a = 101 ∨ (117 ≤ a ∧ a ≤ 148)) : CV s1 t ns := by
  obtain ⟨⟨a1, a2⟩, ⟨b1, b2⟩, c1, d1, e1⟩ := h
  refine ⟨⟨a1.of g (fun q => by have := hA _ _ q; omega) (fun j q => by have := hA _ _ q; omega), a2⟩, ⟨b1.of b2.1 g (fun a k q => by have := hA _ _ q; omega), b2⟩, c1.of g (fun k q => by have := hA _ _ q; omega) (fun q => by have := hA _ _ q; omega), fun b hb => ?_, e1.of g (fun a k q => by have := hA _ _ q; omega)⟩
  have hb := g.k.mp hb
  have h3 := tr_at hl hb
  exact (d1 b hb).of g (fun q => by have := hA _ _ q; omega) (fun k q => by have := hA _ _ q; omega) (fun q => by have := hA _ _ q; omega) (fun k q => by have := hA _ _ q; omega)
set_option maxRecDepth 100000 in
/-- one tree is changed -/
theorem CV.tree (h : CV s t ns) (hl : Ly tt cc s) (hb : aK s b 3) (g : ch A s s1) (hA : ∀ a k, A a k → a = 101 ∨ a = b ∨ a = b + 1 ∨ a = b + 2 ∨ a = b + 3) (hw : TW s1 b) : CV s1 t ns := by
  obtain ⟨⟨a1, a2⟩, ⟨b1, b2⟩, c1, d1, e1⟩ := h
  have hb3 := tr_at hl hb
  refine ⟨⟨a1.of g (fun q => by have := hA _ _ q; omega) (fun j q => by have := hA _ _ q; omega), a2⟩, ⟨b1.of b2.1 g (fun a k q => by have := hA _ _ q; omega), b2⟩, c1.of g (fun k q => by have := hA _ _ q; omega) (fun q => by have := hA _ _ q; omega), fun c hc => ?_, e1.of g (fun a k q => by have := hA _ _ q; omega)⟩
  by_cases e : c = b
  · rw [e]
    exact hw
  · have hc := g.k.mp hc
    have h3 := tr_at hl hc
    have p := tr_ne hl hc hb e
    have q := tr_ne hl hb hc (fun z => e z.symm)
    exact (d1 c hc).of g (fun z => by have := hA _ _ z; omega) (fun k z => by have := hA _ _ z; omega) (fun z => by have := hA _ _ z; omega) (fun k z => by have := hA _ _ z; omega)
/-- more cells, the old ones as they were -/
def gx (s s1 : aS) : Prop := sL s ≤ sL s1 ∧ ∀ a, a < sL s → sT s1 a = sT s a ∧ (∀ k, sI s1 a k = sI s a k) ∧ ∀ k, sR s1 a k = sR s a k
set_option maxRecDepth 100000 in
theorem gx_nw (s : aS) (c n : Nat) : gx s (nw s c n) := ⟨Nat.le_succ _, fun a ha => ⟨sT_nw ha, fun k => sI_nw ha, fun k => sR_nw ha⟩⟩
set_option maxRecDepth 100000 in
theorem gx_nT (s : aS) : gx s (nTree s) := ⟨by rw [nTree_L]; omega, fun a ha => ⟨nT_T ha, fun k => nT_I ha, fun k => nT_R ha⟩⟩
set_option maxRecDepth 100000 in
theorem LT.gx (h : LT s b t) (g : gx s s1) (hb : b + 1 < sL s) : LT s1 b t := ⟨((g.2 b (by omega)).2.1 1).trans h.1, fun j hj => ((g.2 (b + 1) hb).2.1 j).trans (h.2 j hj)⟩
set_option maxRecDepth 100000 in
theorem gx.k (g : gx s s1) {c : Nat} (h : aK s b c) : aK s1 b c := ⟨Nat.lt_of_lt_of_le h.1 g.1, by rw [(g.2 b h.1).1]; exact h.2⟩
set_option maxRecDepth 100000 in
theorem TW.gx (h : TW s b) (g : gx s s1) (hb : b + 3 < sL s) : TW s1 b := by
  obtain ⟨N, u, a1, a2, a3, a5⟩ := h
  refine ⟨N, u, a1, ((g.2 b (by omega)).2.1 2).trans a2, ⟨a3.1.gx g (by omega), a3.2⟩, fun k hk => ?_⟩
  obtain ⟨l, ⟨st, e1, e2, e3, e4⟩, e5⟩ := a5 k hk
  exact ⟨l, ⟨st, ((g.2 (b + 1) (by omega)).2.1 _).trans e1, ((g.2 (b + 1) (by omega)).2.1 _).trans e2, e3, e4⟩, e5⟩
set_option maxRecDepth 100000 in
theorem SQ.gx (h : SQ s ns) (h8 : ns.length ≤ 8) (g : gx s s1) (hL : 149 ≤ sL s) : SQ s1 ns := ⟨⟨((g.2 81 (by omega)).2.1 2).trans h.1.1, fun i hi => (h.1.2 i hi).gx g (by omega)⟩, fun i hi => ((g.2 83 (by omega)).2.1 i).trans (h.2 i hi)⟩
set_option maxRecDepth 100000 in
theorem TD.gx (h : TD s) (g : gx s s1) (hL : 149 ≤ sL s) : TD s1 := by
  obtain ⟨a1, a2, b, b1, b2, b3⟩ := h
  have e : ∀ f, sR s1 100 f = sR s 100 f := fun f => (g.2 100 (by omega)).2.2 f
  refine ⟨fun f hf => ?_, fun f g9 b9 hf hg q1 q2 => a2 f g9 b9 hf hg (by rw [← e]; exact q1) (by rw [← e]; exact q2), b, ((g.2 78 (by omega)).2.2 6).trans b1, g.k b2, fun f hf => by rw [e]; exact b3 f hf⟩
  rw [e]
  rcases a1 f hf with q | ⟨c, q1, q2⟩
  · exact Or.inl q
  · exact Or.inr ⟨c, q1, g.k q2⟩
set_option maxRecDepth 100000 in
theorem RD.gx (h : RD s) (g : gx s s1) (hL : 149 ≤ sL s) : RD s1 := by
  obtain ⟨⟨hd, a1, a2, a3⟩, ⟨m, b1, b2⟩, o, c1, c2⟩ := h
  exact ⟨⟨hd, a1.gx g (by omega), a2, a3⟩, ⟨m, b1, ((g.2 110 (by omega)).2.1 2).trans b2⟩, o, c1, ((g.2 113 (by omega)).2.1 3).trans c2⟩
set_option maxRecDepth 100000 in
theorem CV.gx (h : CV s t ns) (hl : Ly tt cc s) (g : gx s s1) (hn : ∀ b, aK s1 b 3 → sL s ≤ b → TW s1 b) : CV s1 t ns := by
  obtain ⟨⟨a1, a2⟩, ⟨b1, b2⟩, c1, d1, e1⟩ := h
  have hL : 149 ≤ sL s := hl.1
  refine ⟨⟨a1.gx g (by omega), a2⟩, ⟨b1.gx b2.1 g hL, b2⟩, c1.gx g hL, fun b hb => ?_, e1.gx g hL⟩
  by_cases hbl : b < sL s
  · have hb0 : aK s b 3 := ⟨hbl, by rw [← (g.2 b hbl).1]; exact hb.2⟩
    exact (d1 b hb0).gx g (hl.tr hb0).2.2.2.1
  · exact hn b hb (by omega)
set_option maxRecDepth 100000 in
theorem CV.thr (h : CV s t ns) (hl : Ly tt cc s) {c : Nat} (hc : c ≠ 3) : CV (nw s c 0) t ns := h.gx hl (gx_nw s c 0) fun b hb hbl => by
  have h1 : b < sL s + 1 := hb.1
  have e : b = sL s := by omega
  subst e
  have h2 : (sT (nw s c 0) (sL s)).1 = 3 := hb.2
  rw [show sT (nw s c 0) (sL s) = (c, 0) from if_pos rfl] at h2
  exact absurd h2 hc
/-- how much a call makes -/
def gw (s s1 : aS) : Prop := sL s1 ≤ sL s + 8 ∧ aSz s1 ≤ aSz s + 3000
set_option maxRecDepth 100000 in
theorem aSz_ch (g : ch A s s1) : aSz s1 = aSz s := by
  unfold aSz
  rw [g.1]
  congr 1
  exact List.map_congr_left fun a _ => by rw [g.2.1]
set_option maxRecDepth 100000 in
theorem gw_ch (g : ch A s s1) : gw s s1 := ⟨by rw [g.1]; omega, by rw [aSz_ch g]; omega⟩
set_option maxRecDepth 100000 in
theorem gw_nw (s : aS) {c : Nat} : gw s (nw s c 0) := ⟨by rw [sL_nw]; omega, by
  rw [aSz_nw]
  unfold wt
  split
  · omega
  · exact Nat.le_add_right _ _⟩
/-- how a call of FormulaTrees comes to its end: p says of what it answers -/
def Cm (s : aS) (t : List Int32) (ns : List (List Int32)) (p : xZ → Prop) (D : Option (xZ × aS)) : Prop := ∃ o s1, D = some (o, s1) ∧ p o ∧ CV s1 t ns ∧ gw s s1
variable {p : xZ → Prop}
set_option maxRecDepth 100000 in
theorem Cm.x (h : CV s t ns) (hl : Ly tt cc s) {z y : Nat} (hp : p (.inr z)) (hy : y ≠ 3) : Cm s t ns p (some (.inr z, nw s y 0)) := ⟨_, _, rfl, hp, h.thr hl hy, gw_nw s⟩
set_option maxRecDepth 100000 in
theorem Cm.v (h : CV s t ns) {o : xZ} (hp : p o) : Cm s t ns p (some (o, s)) := ⟨_, _, rfl, hp, h, gw_ch (ch.refl (fun _ _ => False) s)⟩
set_option maxRecDepth 100000 in
theorem y55 (x : Int32) : (¬ (0 ≤ x.toInt ∧ x.toInt < 8) ∧ dm55 x = some 0) ∨ ((0 ≤ x.toInt ∧ x.toInt < 8) ∧ dm55 x = some 1) := by
  unfold dm55
  have l1 : x < 0 ↔ x.toInt < 0 := iLt
  have l2 : 8 ≤ x ↔ 8 ≤ x.toInt := iLe
  by_cases c1 : x < 0
  · left
    rw [if_pos c1]
    exact ⟨fun q => by have := l1.mp c1; omega, rfl⟩
  · rw [if_neg c1]
    have c1 : ¬ x.toInt < 0 := fun q => c1 (l1.mpr q)
    by_cases c2 : 8 ≤ x
    · left
      rw [if_pos c2]
      exact ⟨fun q => by have := l2.mp c2; omega, rfl⟩
    · right
      rw [if_neg c2]
      have c2 : ¬ 8 ≤ x.toInt := fun q => c2 (l2.mpr q)
      exact ⟨by omega, rfl⟩
set_option maxRecDepth 100000 in
theorem y54 (ht : TD s) (x : Int32) : dm54 x s = some .null ∨ ∃ b, dm54 x s = some (.ref b) ∧ aK s b 3 ∧ (0 ≤ x.toInt ∧ x.toInt < 8) ∧ sR s 100 x.toInt.toNat = .ref b := by
  unfold dm54
  rcases y55 x with ⟨-, e⟩ | ⟨hx, e⟩
  · left
    rw [e]
    rfl
  · rw [e]
    simp only [bu_some]
    rw [if_neg (by decide), if_pos (aB_iff.mpr hx)]
    by_cases c : sI s 101 (jN x) = -1
    · left
      rw [if_pos c]
    · rw [if_neg c, if_pos (aB_iff.mpr hx)]
      rcases ht.1 x.toInt.toNat (by omega) with z | ⟨b, z1, z2⟩
      · left
        rw [show sR s 100 (jN x) = .null from z]
        rfl
      · right
        rw [show sR s 100 (jN x) = .ref b from z1, vN_ref, if_pos z2]
        exact ⟨b, rfl, z2, hx, z1⟩
set_option maxRecDepth 100000 in
theorem y57 (h : TW s b) (x : Int32) (w : Nat) (hw : w < 11) : ∃ v, dm57 b x (Int32.ofNat w) s = some v ∧ (w = 10 → v.toInt ≤ 256) := by
  obtain ⟨N, u, b1, b2, b3, b4⟩ := h
  by_cases c : 0 ≤ x.toInt ∧ x.toInt < N
  · obtain ⟨k, hk⟩ : ∃ k, k = x.toInt.toNat := ⟨_, rfl⟩
    have ex : x = Int32.ofNat k := by rw [hk]; exact ofNat_of c.1
    rw [ex, d57 b2 b1 (by omega) hw]
    refine ⟨_, rfl, fun q => ?_⟩
    subst q
    obtain ⟨l, ⟨st, e1, e2, e3, e4⟩, -⟩ := b4 k (by omega)
    have := b3.2.1
    rw [e2, iOfNat (by omega)]
    omega
  · refine ⟨-1, ?_, fun _ => by decide⟩
    unfold dm57 dm57_13 dm57_14
    by_cases c1 : x < 0
    · rw [if_pos c1, if_pos rfl]
    · have z1 : ¬ x.toInt < 0 := fun q => c1 (iLt.mpr q)
      have c2 : sI s b 2 ≤ x := by
        rw [b2, iLe, iOfNat (by omega)]
        omega
      rw [if_neg c1, if_pos c2, if_pos rfl]
set_option maxRecDepth 100000 in
theorem y144 (h : TW s b) (hT : (sT s (b + 3)).2 = 256) (x y : Int32) : ∃ v, dm144 b x y s = some v := by
  obtain ⟨v9, e9, -⟩ := y57 h x 9 (by omega)
  obtain ⟨v10, e10, -⟩ := y57 h x 10 (by omega)
  have e9 : dm57 b x 9 s = some v9 := e9
  have e10 : dm57 b x 10 s = some v10 := e10
  obtain ⟨N, u, b1, b2, b3, b4⟩ := h
  obtain ⟨w, ew⟩ := c34 (x := v9 + y) b3.1 (by show u.length ≤ (sT s (b + 3)).2; rw [hT]; exact b3.2.1) (by have := b3.2.1; omega)
  unfold dm144 dm144_10 dm144_11
  rw [e10, e9]
  simp only [bu_some]
  rw [ew]
  simp only [bu_some]
  repeat' split
  all_goals exact ⟨_, rfl⟩
end CVs
end
section
/-! calls of FormulaTrees that tell of trees come to their end -/
def pI (o : xZ) : Prop := (∃ v, o = .inl (some (.int v))) ∨ o = .inr 2
def pJ (o : xZ) : Prop := (∃ v, o = .inl (some (.int v))) ∨ o = .inr 2 ∨ o = .inr 0
def pC (o : xZ) : Prop := (∃ v, o = .inl (some (.int v))) ∨ o = .inr 0
def pN (o : xZ) : Prop := o = .inl none ∨ o = .inr 2
def pM (o : xZ) : Prop := o = .inl none ∨ o = .inr 2 ∨ o = .inr 0
section CVs
variable {tt : Nat} {xs : List Int32} {s : aS} {t : List Int32} {ns : List (List Int32)} {b : Nat}
set_option maxRecDepth 100000 in
theorem y138 (h : CV s t ns) (hl : Ly tt (cCc xs) s) (x k : Int32) : Cm s t ns pI (dm138 x k s) := by
  unfold dm138
  rcases y54 h.2.2.1 x with e | ⟨b, e, e2, e3, e4⟩
  · rw [e]
    simp only [bu_some, vN_null]
    exact Cm.x h hl (Or.inr rfl) (by decide)
  · rw [e]
    simp only [bu_some, vN_ref]
    rw [if_pos e2]
    obtain ⟨N, u, w1, w2, w3, w4⟩ := h.2.2.2.1 b e2
    obtain ⟨v, s1, g1, g2⟩ := c139 (ns := ns) e2 (tr_at hl e2) ⟨N, u, w1, w2, w3, fun k hk => by
      obtain ⟨l, q, -⟩ := w4 k hk
      exact ⟨l, q⟩⟩ (by rw [(hl.tr e2).2.2.2.2.2.2.1]) h.2.1.1.1 h.2.1.2 (RC.ly hl) (AS.ly hl) k
    rw [g1]
    simp only [bv_some]
    exact ⟨_, s1, rfl, Or.inl ⟨v, rfl⟩, h.of hl g2 (fun a k z => Or.inr (by omega)), gw_ch g2⟩
set_option maxRecDepth 100000 in
theorem y137 (h : CV s t ns) (hl : Ly tt (cCc xs) s) (x : Int32) : Cm s t ns pN (dm137 x s) := by
  unfold dm137
  rcases y54 h.2.2.1 x with e | ⟨b, e, e2, e3, e4⟩
  · rw [e]
    simp only [bu_some, vN_null]
    exact Cm.x h hl (Or.inr rfl) (by decide)
  · rw [e]
    simp only [bu_some, vN_ref]
    rw [if_pos e2, if_pos (aB_iff.mpr e3), nx_eq]
    have g : ch (fun a _ => a = 101) s (wI s 101 (jN x) (-1)) := (ch.refl _ s).wI rfl
    exact ⟨_, _, rfl, Or.inl rfl, h.of hl g (fun a k z => Or.inl z), gw_ch g⟩
set_option maxRecDepth 100000 in
theorem y159 (h : CV s t ns) (hl : Ly tt (cCc xs) s) (x : Int32) : Cm s t ns pI (dm159 x s) := by
  unfold dm159
  rcases y54 h.2.2.1 x with e | ⟨b, e, e2, e3, e4⟩
  · rw [e]
    simp only [bu_some, vN_null]
    exact Cm.x h hl (Or.inr rfl) (by decide)
  · rw [e]
    simp only [bu_some, vN_ref]
    rw [if_pos e2]
    unfold dm94
    simp only [bu_some]
    exact Cm.v h (Or.inl ⟨_, rfl⟩)
set_option maxRecDepth 100000 in
theorem y161 (b : Nat) (x : Int32) (s : aS) : ∃ r, dm161 b x s = some r := by
  unfold dm161
  repeat' split
  all_goals exact ⟨_, rfl⟩
set_option maxRecDepth 100000 in
theorem y160 (h : CV s t ns) (hl : Ly tt (cCc xs) s) (x y z : Int32) : Cm s t ns pJ (dm160 x y z s) := by
  unfold dm160 dm160_10 dm160_20
  rcases y54 h.2.2.1 x with e | ⟨b, e, e2, e3, e4⟩
  · rw [e]
    simp only [bu_some, vN_null]
    exact Cm.x h hl (Or.inr (Or.inl rfl)) (by decide)
  · rw [e]
    simp only [bu_some, vN_ref]
    obtain ⟨r, er⟩ := y161 b y s
    rw [if_pos e2, er]
    simp only [bu_some]
    split
    · exact Cm.x h hl (Or.inr (Or.inl rfl)) (by decide)
    · split
      · exact Cm.x h hl (Or.inr (Or.inr rfl)) (by decide)
      · rename_i c1
        split
        · rename_i c2
          have z1 : ¬ z.toInt < 0 := fun q => c1 (iLt.mpr q)
          have z2 : z.toInt < 9 := iLt.mp c2
          have ez : z = Int32.ofNat z.toInt.toNat := ofNat_of (by omega)
          obtain ⟨v, ev, -⟩ := y57 (h.2.2.2.1 b e2) y z.toInt.toNat (by omega)
          rw [← ez] at ev
          rw [ev]
          simp only [bu_some]
          exact Cm.v h (Or.inl ⟨v, rfl⟩)
        · exact Cm.x h hl (Or.inr (Or.inr rfl)) (by decide)
set_option maxRecDepth 100000 in
theorem y162 (h : CV s t ns) (hl : Ly tt (cCc xs) s) (x y z : Int32) : Cm s t ns pI (dm162 x y z s) := by
  unfold dm162 dm162_10
  rcases y54 h.2.2.1 x with e | ⟨b, e, e2, e3, e4⟩
  · rw [e]
    simp only [bu_some, vN_null]
    exact Cm.x h hl (Or.inr rfl) (by decide)
  · rw [e]
    simp only [bu_some, vN_ref]
    obtain ⟨r, er⟩ := y161 b y s
    rw [if_pos e2, er]
    simp only [bu_some]
    split
    · exact Cm.x h hl (Or.inr rfl) (by decide)
    · obtain ⟨v, ev⟩ := y144 (h.2.2.2.1 b e2) (by rw [(hl.tr e2).2.2.2.2.2.2.1]) y z
      rw [ev]
      simp only [bu_some]
      exact Cm.v h (Or.inl ⟨v, rfl⟩)
set_option maxRecDepth 100000 in
theorem y165c {b0 b1 : Nat} (h0 : TW s b0) (h1 : TW s b1) (hT0 : (sT s (b0 + 3)).2 = 256) (hT1 : (sT s (b1 + 3)).2 = 256) (x2 : Int32) : ∀ (m j n : Nat) (x3 : Int32), (x3 = 0 ∨ x3 = 1) → j + m = 257 → m < n → ∃ v, dm165_37 n b0 b1 x2 x3 (Int32.ofNat j) s = some v ∧ (v = 0 ∨ v = 1) := by
  obtain ⟨v, e, e9⟩ := y57 h0 x2 10 (by omega)
  have e : dm57 b0 x2 10 s = some v := e
  intro m
  induction m with
  | zero =>
    intro j n x3 h3 h4 h5
    obtain ⟨n, rfl⟩ : ∃ q, n = q + 1 := ⟨n - 1, by omega⟩
    have hj : j = 257 := by omega
    subst hj
    rw [dm165_37, e]
    simp only [bu_some]
    rw [if_pos (iLe.mpr (by rw [iOfNat (by omega)]; have := e9 rfl; omega)), if_pos h3]
    exact ⟨x3, rfl, h3⟩
  | succ m ih =>
    intro j n x3 h3 h4 h5
    obtain ⟨n, rfl⟩ : ∃ q, n = q + 1 := ⟨n - 1, by omega⟩
    obtain ⟨v1, q1⟩ := y144 h0 hT0 x2 (Int32.ofNat j)
    obtain ⟨v2, q2⟩ := y144 h1 hT1 x2 (Int32.ofNat j)
    rw [dm165_37, e]
    simp only [bu_some]
    split
    · exact ⟨x3, rfl, h3⟩
    · split
      · exact ⟨x3, rfl, h3⟩
      · rw [q1]
        simp only [bu_some]
        rw [q2]
        simp only [bu_some]
        unfold dm165_57
        rw [ofNat_succ (by omega)]
        split
        · exact ih (j + 1) n 1 (Or.inr rfl) (by omega) (by omega)
        · exact ih (j + 1) n 0 (Or.inl rfl) (by omega) (by omega)
set_option maxRecDepth 100000 in
theorem y165 {b0 b1 : Nat} (h0 : TW s b0) (h1 : TW s b1) (hT0 : (sT s (b0 + 3)).2 = 256) (hT1 : (sT s (b1 + 3)).2 = 256) (x2 : Int32) : ∃ v, dm165 b0 b1 x2 s = some v ∧ (v = 0 ∨ v = 1) := by
  have f35 : ∀ x3, (x3 = 0 ∨ x3 = 1) → ∃ v, dm165_35 b0 b1 x2 x3 s = some v ∧ (v = 0 ∨ v = 1) := fun x3 h3 => y165c h0 h1 hT0 hT1 x2 257 0 5000 x3 h3 (by omega) (by omega)
  have loop : ∀ (m j n : Nat) (x3 : Int32), (x3 = 0 ∨ x3 = 1) → j + m = 9 → m < n → ∃ v, dm165_15 n b0 b1 x2 x3 (Int32.ofNat j) s = some v ∧ (v = 0 ∨ v = 1) := by
    intro m
    induction m with
    | zero =>
      intro j n x3 h3 h4 h5
      obtain ⟨n, rfl⟩ : ∃ q, n = q + 1 := ⟨n - 1, by omega⟩
      have hj : j = 9 := by omega
      subst hj
      rw [dm165_15, if_pos (by decide)]
      exact f35 x3 h3
    | succ m ih =>
      intro j n x3 h3 h4 h5
      obtain ⟨n, rfl⟩ : ∃ q, n = q + 1 := ⟨n - 1, by omega⟩
      obtain ⟨v1, q1, -⟩ := y57 h0 x2 j (by omega)
      obtain ⟨v2, q2, -⟩ := y57 h1 x2 j (by omega)
      rw [dm165_15]
      split
      · exact f35 x3 h3
      · split
        · exact f35 x3 h3
        · rw [q1]
          simp only [bu_some]
          rw [q2]
          simp only [bu_some]
          unfold dm165_32
          rw [ofNat_succ (by omega)]
          split
          · exact ih (j + 1) n 1 (Or.inr rfl) (by omega) (by omega)
          · exact ih (j + 1) n 0 (Or.inl rfl) (by omega) (by omega)
  have f12 : ∀ x3, (x3 = 0 ∨ x3 = 1) → ∃ v, dm165_12 b0 b1 x2 x3 s = some v ∧ (v = 0 ∨ v = 1) := fun x3 h3 => loop 9 0 5000 x3 h3 (by omega) (by omega)
  obtain ⟨v1, q1, -⟩ := y57 h0 x2 10 (by omega)
  obtain ⟨v2, q2, -⟩ := y57 h1 x2 10 (by omega)
  have q1 : dm57 b0 x2 10 s = some v1 := q1
  have q2 : dm57 b1 x2 10 s = some v2 := q2
  unfold dm165
  rw [q1]
  simp only [bu_some]
  rw [q2]
  simp only [bu_some]
  split
  · exact f12 1 (Or.inr rfl)
  · exact f12 0 (Or.inl rfl)
set_option maxRecDepth 100000 in
theorem y164 {b0 b1 : Nat} (h0 : TW s b0) (h1 : TW s b1) (hT0 : (sT s (b0 + 3)).2 = 256) (hT1 : (sT s (b1 + 3)).2 = 256) : ∃ v, dm164 b0 b1 s = some v ∧ (v = 0 ∨ v = 1) := by
  have h00 := h0
  obtain ⟨N, u, a1, a2, -⟩ := h00
  have loop : ∀ (m j n : Nat) (x3 : Int32), (x3 = 0 ∨ x3 = 1) → j + m = N → m < n → ∃ v, dm164_11 n b0 b1 x3 (Int32.ofNat j) s = some v ∧ (v = 0 ∨ v = 1) := by
    intro m
    induction m with
    | zero =>
      intro j n x3 h3 h4 h5
      obtain ⟨n, rfl⟩ : ∃ q, n = q + 1 := ⟨n - 1, by omega⟩
      rw [dm164_11, a2, if_pos ((nle_iff (by omega) (by omega)).mpr (by omega)), if_pos h3]
      exact ⟨x3, rfl, h3⟩
    | succ m ih =>
      intro j n x3 h3 h4 h5
      obtain ⟨n, rfl⟩ : ∃ q, n = q + 1 := ⟨n - 1, by omega⟩
      obtain ⟨v, q1, q2⟩ := y165 h0 h1 hT0 hT1 (Int32.ofNat j)
      rw [dm164_11]
      split
      · exact ⟨x3, rfl, h3⟩
      · split
        · exact ⟨x3, rfl, h3⟩
        · rw [q1]
          simp only [bu_some]
          rw [ofNat_succ (by omega)]
          exact ih (j + 1) n v q2 (by omega) (by omega)
  have f8 : ∀ x3, (x3 = 0 ∨ x3 = 1) → ∃ v, dm164_8 b0 b1 x3 s = some v ∧ (v = 0 ∨ v = 1) := fun x3 h3 => loop N 0 5000 x3 h3 (by omega) (by omega)
  unfold dm164
  split
  · exact f8 1 (Or.inr rfl)
  · exact f8 0 (Or.inl rfl)
set_option maxRecDepth 100000 in
theorem y163 (h : CV s t ns) (hl : Ly tt (cCc xs) s) (x y : Int32) : Cm s t ns pI (dm163 x y s) := by
  unfold dm163 dm163_12
  rcases y54 h.2.2.1 x with e | ⟨b, e, e2, e3, e4⟩
  · rw [e]
    simp only [bu_some, vN_null]
    rcases y54 h.2.2.1 y with f | ⟨c, f, f2, f3, f4⟩
    · rw [f]
      simp only [bu_some, vN_null]
      exact Cm.x h hl (Or.inr rfl) (by decide)
    · rw [f]
      simp only [bu_some, vN_ref]
      rw [if_pos f2]
      exact Cm.x h hl (Or.inr rfl) (by decide)
  · rw [e]
    simp only [bu_some, vN_ref]
    rw [if_pos e2]
    rcases y54 h.2.2.1 y with f | ⟨c, f, f2, f3, f4⟩
    · rw [f]
      simp only [bu_some, vN_null]
      exact Cm.x h hl (Or.inr rfl) (by decide)
    · rw [f]
      simp only [bu_some, vN_ref]
      obtain ⟨v, ev, hv⟩ := y164 (h.2.2.2.1 b e2) (h.2.2.2.1 c f2) (by rw [(hl.tr e2).2.2.2.2.2.2.1]) (by rw [(hl.tr f2).2.2.2.2.2.2.1])
      rw [if_pos f2, ev]
      simp only [bu_some]
      rw [if_pos hv]
      exact Cm.v h (Or.inl ⟨v, rfl⟩)
set_option maxRecDepth 100000 in
theorem y168 (s : aS) : ∃ v, dm168 s = some v := by
  have loop : ∀ (m j n : Nat) (x : Int32), j + m = 8 → m < n → ∃ v, dm168_4 n x (Int32.ofNat j) s = some v := by
    intro m
    induction m with
    | zero =>
      intro j n x h4 h5
      obtain ⟨n, rfl⟩ : ∃ q, n = q + 1 := ⟨n - 1, by omega⟩
      have hj : j = 8 := by omega
      subst hj
      rw [dm168_4, if_pos (by decide)]
      exact ⟨x, rfl⟩
    | succ m ih =>
      intro j n x h4 h5
      obtain ⟨n, rfl⟩ : ∃ q, n = q + 1 := ⟨n - 1, by omega⟩
      rw [dm168_4]
      split
      · exact ⟨x, rfl⟩
      · rw [if_pos (aB_of (by omega) (by omega))]
        unfold dm168_19
        rw [ofNat_succ (by omega)]
        split
        · exact ih (j + 1) n _ (by omega) (by omega)
        · exact ih (j + 1) n _ (by omega) (by omega)
  exact loop 8 0 5000 0 (by omega) (by omega)
set_option maxRecDepth 100000 in
theorem y166 (h : CV s t ns) (hl : Ly tt (cCc xs) s) (x : Int32) : Cm s t ns pC (dm166 x s) := by
  unfold dm166 dm166_5
  split
  · exact Cm.x h hl (Or.inr rfl) (by decide)
  · rename_i c1
    split
    · rename_i c2
      split
      · unfold dm167
        simp only [bu_some]
        exact Cm.v h (Or.inl ⟨_, rfl⟩)
      · rename_i c3
        split
        · obtain ⟨v, ev⟩ := y168 s
          rw [ev]
          simp only [bu_some]
          exact Cm.v h (Or.inl ⟨_, rfl⟩)
        · rename_i c4
          have z1 : ¬ x.toInt < 0 := fun q => c1 (iLt.mpr q)
          have z2 : x.toInt ≤ 9 := iLe.mp c2
          have z3 : x.toInt ≠ 0 := fun q => c3 (iEq.mpr q)
          have z4 : x.toInt ≠ 1 := fun q => c4 (iEq.mpr q)
          have e2 : (2 : Int32).toInt = 2 := rfl
          rw [if_pos (by rw [aB_iff, iSub (by rw [e2]; omega) (by rw [e2]; omega), e2]; omega)]
          exact Cm.v h (Or.inl ⟨_, rfl⟩)
    · exact Cm.x h hl (Or.inr rfl) (by decide)
set_option maxRecDepth 100000 in
theorem y169 (h : CV s t ns) (hl : Ly tt (cCc xs) s) (x y : Int32) : Cm s t ns pI (dm169 x y s) := by
  rcases d169 h.2.1.1.1 (RC.ly hl) h.2.1.2 x y with ⟨-, e⟩ | ⟨-, e⟩
  · rw [e]
    exact Cm.x h hl (Or.inr rfl) (by decide)
  · rw [e]
    exact Cm.v h (Or.inl ⟨_, rfl⟩)
end CVs
end
section
/-! calls of FormulaTrees that change trees come to their end: means -/
def CU (s : aS) (t : List Int32) (ns : List (List Int32)) : Prop := (LT s 79 t ∧ t.length ≤ 256 ∧ okT t) ∧ (SQ s ns ∧ nsOk ns) ∧ (∀ b, aK s b 3 → TW s b) ∧ RD s
section CVs
variable {tt : Nat} {cc : Nat → Nat → Int32} {s s1 s2 : aS} {t : List Int32} {ns : List (List Int32)} {A : Nat → Nat → Prop} {b c : Nat}
set_option maxRecDepth 100000 in
theorem CV.u (h : CV s t ns) : CU s t ns := ⟨h.1, h.2.1, h.2.2.2⟩
set_option maxRecDepth 100000 in
theorem CU.v (h : CU s t ns) (ht : TD s) : CV s t ns := ⟨h.1, h.2.1, ht, h.2.2⟩
set_option maxRecDepth 100000 in
theorem CU.of (h : CU s t ns) (hl : Ly tt cc s) (g : ch A s s1) (hA : ∀ a k, A a k → a = 78 ∨ a = 100 ∨ a = 101 ∨ (117 ≤ a ∧ a ≤ 148)) : CU s1 t ns := by
  obtain ⟨⟨a1, a2⟩, ⟨b1, b2⟩, d1, e1⟩ := h
  refine ⟨⟨a1.of g (fun q => by have := hA _ _ q; omega) (fun j q => by have := hA _ _ q; omega), a2⟩, ⟨b1.of b2.1 g (fun a k q => by have := hA _ _ q; omega), b2⟩, fun b hb => ?_, e1.of g (fun a k q => by have := hA _ _ q; omega)⟩
  have hb := g.k.mp hb
  have h3 := tr_at hl hb
  exact (d1 b hb).of g (fun q => by have := hA _ _ q; omega) (fun k q => by have := hA _ _ q; omega) (fun q => by have := hA _ _ q; omega) (fun k q => by have := hA _ _ q; omega)
set_option maxRecDepth 100000 in
theorem CU.gx (h : CU s t ns) (hl : Ly tt cc s) (g : gx s s1) (hn : ∀ b, aK s1 b 3 → sL s ≤ b → TW s1 b) : CU s1 t ns := by
  obtain ⟨⟨a1, a2⟩, ⟨b1, b2⟩, d1, e1⟩ := h
  have hL : 149 ≤ sL s := hl.1
  refine ⟨⟨a1.gx g (by omega), a2⟩, ⟨b1.gx b2.1 g hL, b2⟩, fun b hb => ?_, e1.gx g hL⟩
  by_cases hbl : b < sL s
  · have hb0 : aK s b 3 := ⟨hbl, by rw [← (g.2 b hbl).1]; exact hb.2⟩
    exact (d1 b hb0).gx g (hl.tr hb0).2.2.2.1
  · exact hn b hb (by omega)
set_option maxRecDepth 100000 in
/-- a new tree is one -/
theorem nT_w (s : aS) (hL : 149 ≤ sL s) : ∀ b, aK (nTree s) b 3 → sL s ≤ b → TW (nTree s) b := by
  intro b hb hbl
  have h1 : b < sL s + 4 := hb.1
  have h2 : (sT (nTree s) b).1 = 3 := hb.2
  have e : b = sL s := by
    rw [nTree_T] at h2
    by_cases c3 : b = sL s + 3
    · rw [if_pos c3] at h2
      cases h2
    · rw [if_neg c3] at h2
      by_cases c2 : b = sL s + 2
      · rw [if_pos c2] at h2
        cases h2
      · rw [if_neg c2] at h2
        by_cases c1 : b = sL s + 1
        · rw [if_pos c1] at h2
          cases h2
        · omega
  subst e
  refine ⟨0, [], by omega, ?_, ⟨⟨?_, fun j hj => absurd hj (Nat.not_lt_zero j)⟩, Nat.zero_le _, fun y hy => (by cases hy)⟩, fun k hk => absurd hk (Nat.not_lt_zero k)⟩
  · rw [nTree_I, if_neg (by omega), if_neg (by omega), if_neg (by omega), if_pos rfl]
    rfl
  · rw [nTree_I, if_neg (by omega), if_pos rfl]
    rfl
set_option maxRecDepth 100000 in
theorem aSz_nT (s : aS) : aSz (nTree s) = aSz s + 1669 := by
  unfold nTree
  rw [aSz_wR, aSz_wR, aSz_nw, aSz_nw, aSz_wR, aSz_nw, aSz_nw]
  have w1 : wt (3, 3) = 3 := by decide
  have w2 : wt (100, 1408) = 1408 := by decide
  have w3 : wt (1, 2) = 2 := by decide
  have w4 : wt (102, 256) = 256 := by decide
  rw [w1, w2, w3, w4]
set_option maxRecDepth 100000 in
theorem gw_nT (s : aS) : gw s (nTree s) := ⟨by rw [nTree_L]; omega, by rw [aSz_nT]; omega⟩
set_option maxRecDepth 100000 in
theorem gw.tr (h : gw s s1) (g : ch A s1 s2) : gw s s2 := ⟨by rw [g.1]; exact h.1, by rw [aSz_ch g]; exact h.2⟩
set_option maxRecDepth 100000 in
theorem gw.d (g : ch A s s1) (h : gw s1 s2) : gw s s2 := ⟨by rw [← g.1]; exact h.1, by rw [← aSz_ch g]; exact h.2⟩
set_option maxRecDepth 100000 in
/-- the reader has run -/
theorem CV.rd (h : CV s t ns) (hl : Ly tt cc s) (hb : aK s b 3) (g : ch A s s1) (hA : ∀ a k, A a k → a = b ∨ a = b + 1 ∨ a = b + 2 ∨ a = b + 3 ∨ (106 ≤ a ∧ a ≤ 116)) (hw : TW s1 b) (hr : RD s1) : CV s1 t ns := by
  obtain ⟨⟨a1, a2⟩, ⟨b1, b2⟩, c1, d1, e1⟩ := h
  have hb3 := tr_at hl hb
  refine ⟨⟨a1.of g (fun q => by have := hA _ _ q; omega) (fun j q => by have := hA _ _ q; omega), a2⟩, ⟨b1.of b2.1 g (fun a k q => by have := hA _ _ q; omega), b2⟩, c1.of g (fun k q => by have := hA _ _ q; omega) (fun q => by have := hA _ _ q; omega), fun c hc => ?_, hr⟩
  by_cases e : c = b
  · rw [e]
    exact hw
  · have hc := g.k.mp hc
    have h3 := tr_at hl hc
    have p := tr_ne hl hc hb e
    have q := tr_ne hl hb hc (fun z => e z.symm)
    exact (d1 c hc).of g (fun z => by have := hA _ _ z; omega) (fun k z => by have := hA _ _ z; omega) (fun z => by have := hA _ _ z; omega) (fun k z => by have := hA _ _ z; omega)
set_option maxRecDepth 100000 in
/-- names are changed -/
theorem CV.nm {ns1 : List (List Int32)} (h : CV s t ns) (hl : Ly tt cc s) (g : ch (fun a _ => 81 ≤ a ∧ a ≤ 99) s s1) (hq : SQ s1 ns1) (hn : nsOk ns1) : CV s1 t ns1 := by
  obtain ⟨⟨a1, a2⟩, -, c1, d1, e1⟩ := h
  refine ⟨⟨a1.of g (by omega) (fun j => by omega), a2⟩, ⟨hq, hn⟩, c1.of g (fun k => by omega) (by omega), fun b hb => ?_, e1.of g (fun a k q => by omega)⟩
  have hb := g.k.mp hb
  have h3 := tr_at hl hb
  exact (d1 b hb).of g (by omega) (fun k => by omega) (by omega) (fun k => by omega)
set_option maxRecDepth 100000 in
/-- the text is changed -/
theorem CV.tx {t1 : List Int32} (h : CV s t ns) (hl : Ly tt cc s) (g : ch (fun a _ => a = 79 ∨ a = 80) s s1) (hq : LT s1 79 t1) (hn : t1.length ≤ 256 ∧ okT t1) : CV s1 t1 ns := by
  obtain ⟨-, ⟨b1, b2⟩, c1, d1, e1⟩ := h
  refine ⟨⟨hq, hn⟩, ⟨b1.of b2.1 g (fun a k q => by omega), b2⟩, c1.of g (fun k => by omega) (by omega), fun b hb => ?_, e1.of g (fun a k q => by omega)⟩
  have hb := g.k.mp hb
  have h3 := tr_at hl hb
  exact (d1 b hb).of g (by omega) (fun k => by omega) (by omega) (fun k => by omega)
set_option maxRecDepth 100000 in
theorem ofNat_any (x : Int32) : ∃ i, x = Int32.ofNat i := by
  refine ⟨(x.toInt % 4294967296).toNat, ?_⟩
  have h := iRange x
  by_cases c : 0 ≤ x.toInt
  · rw [show (x.toInt % 4294967296).toNat = x.toInt.toNat by omega]
    exact ofNat_of c
  · rw [iEq]
    show x.toInt = (Int32.ofNat (x.toInt % 4294967296).toNat).toInt
    rw [Int32.toInt_ofNat', show (((x.toInt % 4294967296).toNat : Nat) : Int) = x.toInt + ((4294967296 : Nat) : Int) by omega, show Int32.size = 4294967296 from rfl, Int.add_bmod_right]
    exact (Int.bmod_eq_of_le (by omega) (by omega)).symm
set_option maxRecDepth 100000 in
theorem kn_of (h : TW s b) (hr : RD s) : ∃ i N, N ≤ 128 ∧ KN s s b i 256 N := by
  obtain ⟨N, u, a1, a2, a3, a5⟩ := h
  obtain ⟨i, ei⟩ := ofNat_any (sI s 106 7)
  exact ⟨i, N, a1, ⟨ch.refl _ s, ei, ⟨N, u, a1, a2, a3, a3.2.1, a5⟩, hr⟩, a2⟩
set_option maxRecDepth 100000 in
theorem TD.nT {y : Nat} (ht : TD s) (hL : 149 ≤ sL s) (hy : y < 8) (hn : sR s 100 y = .null) : TD (wR (nTree s) 100 y (.ref (sL s))) := by
  have eR : ∀ f, f ≠ y → sR (wR (nTree s) 100 y (.ref (sL s))) 100 f = sR s 100 f := fun f hf => by
    rw [sR_wR, if_neg (by omega), nT_R (by omega)]
  have eY : sR (wR (nTree s) 100 y (.ref (sL s))) 100 y = .ref (sL s) := by rw [sR_wR, if_pos ⟨rfl, rfl⟩]
  have eK : ∀ b, aK s b 3 → aK (wR (nTree s) 100 y (.ref (sL s))) b 3 := fun b hb => nT_K hb
  have eN : aK (wR (nTree s) 100 y (.ref (sL s))) (sL s) 3 := ⟨by show sL s < sL s + 4; omega, by
    show (sT (nTree s) (sL s)).1 = 3
    rw [nTree_T, if_neg (by omega), if_neg (by omega), if_neg (by omega), if_pos rfl]⟩
  have old : ∀ f, f < 8 → f ≠ y → sR s 100 f ≠ .ref (sL s) := fun f hf hfy q => by
    rcases ht.1 f hf with z | ⟨b, z1, z2⟩
    · rw [z] at q
      cases q
    · rw [z1] at q
      cases q
      exact absurd z2.1 (Nat.lt_irrefl _)
  refine ⟨fun f hf => ?_, fun f g b hf hg q1 q2 => ?_, ?_⟩
  · by_cases e : f = y
    · subst e
      exact Or.inr ⟨_, eY, eN⟩
    · rw [eR f e]
      rcases ht.1 f hf with z | ⟨b, z1, z2⟩
      · exact Or.inl z
      · exact Or.inr ⟨b, z1, eK b z2⟩
  · by_cases e1 : f = y
    · by_cases e2 : g = y
      · rw [e1, e2]
      · subst e1
        rw [eY] at q1
        cases q1
        rw [eR g e2] at q2
        exact absurd q2 (old g hg e2)
    · rw [eR f e1] at q1
      by_cases e2 : g = y
      · subst e2
        rw [eY] at q2
        cases q2
        exact absurd q1 (old f hf e1)
      · rw [eR g e2] at q2
        exact ht.2.1 f g b hf hg q1 q2
  · obtain ⟨b, b1, b2, b3⟩ := ht.2.2
    refine ⟨b, ?_, eK b b2, fun f hf q => ?_⟩
    · rw [sR_wR, if_neg (by omega), nT_R (by omega)]
      exact b1
    · by_cases e : f = y
      · subst e
        rw [eY] at q
        cases q
        exact absurd b2.1 (Nat.lt_irrefl _)
      · rw [eR f e] at q
        exact b3 f hf q
end CVs
end
section
/-! read, move, shift and drop of FormulaTrees come to their end -/
section CVs
variable {tt : Nat} {xs : List Int32} {s : aS} {t : List Int32} {ns : List (List Int32)} {b c : Nat}
set_option maxRecDepth 100000 in
theorem nT_0 (s : aS) : (sT (nTree s) (sL s)).1 = 3 := by rw [nTree_T, if_neg (by omega), if_neg (by omega), if_neg (by omega), if_pos rfl]
set_option maxRecDepth 100000 in
theorem ly_100 {v : Value} {k : Nat} (hl : Ly tt (cCc xs) s) : Ly tt (cCc xs) (wR s 100 k v) := hl.wRd (show sT s 100 = (113, 8) from hl.T (a := 100) (p := (113, 8)) 22 rfl rfl) (by decide) (lay_noR _)
set_option maxRecDepth 100000 in
/-- the tree that was read takes its place: an old one is there -/
theorem td_old {f c b : Nat} {v : Int32} (h : TD s) (hf : f < 8) (hc : sR s 100 f = .ref c) (hb : sR s 78 6 = .ref b) : TD (wR (wI (wR s 100 f (.ref b)) 101 f v) 78 6 (.ref c)) := by
  obtain ⟨a1, a2, b9, b1, b2, b3⟩ := h
  rw [hb] at b1
  cases b1
  have eR : ∀ g, sR (wR (wI (wR s 100 f (.ref b)) 101 f v) 78 6 (.ref c)) 100 g = if g = f then .ref b else sR s 100 g := fun g => by
    rw [sR_wR, if_neg (by omega), sR_wI, sR_wR]
    by_cases e : g = f
    · rw [if_pos ⟨rfl, e⟩, if_pos e]
    · rw [if_neg (fun z => e z.2), if_neg e]
  have hck : aK s c 3 := by
    rcases a1 f hf with z | ⟨d, z1, z2⟩
    · rw [z] at hc
      cases hc
    · rw [z1] at hc
      cases hc
      exact z2
  refine ⟨fun g hg => ?_, fun g k d hg hk q1 q2 => ?_, c, by rw [sR_wR, if_pos ⟨rfl, rfl⟩], hck, fun g hg => ?_⟩
  · rw [eR]
    by_cases e : g = f
    · rw [if_pos e]
      exact Or.inr ⟨b, rfl, b2⟩
    · rw [if_neg e]
      exact a1 g hg
  · rw [eR] at q1 q2
    by_cases e1 : g = f
    · by_cases e2 : k = f
      · rw [e1, e2]
      · rw [if_pos e1] at q1
        rw [if_neg e2] at q2
        cases q1
        exact absurd q2 (b3 k hk)
    · by_cases e2 : k = f
      · rw [if_neg e1] at q1
        rw [if_pos e2] at q2
        cases q2
        exact absurd q1 (b3 g hg)
      · rw [if_neg e1] at q1
        rw [if_neg e2] at q2
        exact a2 g k d hg hk q1 q2
  · rw [eR]
    by_cases e : g = f
    · rw [if_pos e]
      intro q
      cases q
      exact b3 f hf hc
    · rw [if_neg e]
      exact fun q => e (a2 g f c hg hf q hc)
set_option maxRecDepth 100000 in
/-- and where there is none -/
theorem td_new {f b : Nat} {v : Int32} (h : TD s) (hL : 149 ≤ sL s) (hf : f < 8) (hb : sR s 78 6 = .ref b) : TD (wR (nTree (wI (wR s 100 f (.ref b)) 101 f v)) 78 6 (.ref (sL s))) := by
  obtain ⟨a1, a2, b9, b1, b2, b3⟩ := h
  rw [hb] at b1
  cases b1
  have eR : ∀ g, sR (wR (nTree (wI (wR s 100 f (.ref b)) 101 f v)) 78 6 (.ref (sL s))) 100 g = if g = f then .ref b else sR s 100 g := fun g => by
    rw [sR_wR, if_neg (by omega), nT_R (s := wI (wR s 100 f (.ref b)) 101 f v) (show 100 < sL s by omega), sR_wI, sR_wR]
    by_cases e : g = f
    · rw [if_pos ⟨rfl, e⟩, if_pos e]
    · rw [if_neg (fun z => e z.2), if_neg e]
  have eK : ∀ d, aK s d 3 → aK (wR (nTree (wI (wR s 100 f (.ref b)) 101 f v)) 78 6 (.ref (sL s))) d 3 := fun d hd => nT_K (s := wI (wR s 100 f (.ref b)) 101 f v) hd
  have eN : aK (wR (nTree (wI (wR s 100 f (.ref b)) 101 f v)) 78 6 (.ref (sL s))) (sL s) 3 := ⟨by show sL s < sL s + 4; omega, by
    exact nT_0 (wI (wR s 100 f (.ref b)) 101 f v)⟩
  refine ⟨fun g hg => ?_, fun g k d hg hk q1 q2 => ?_, sL s, by rw [sR_wR, if_pos ⟨rfl, rfl⟩], eN, fun g hg => ?_⟩
  · rw [eR]
    by_cases e : g = f
    · rw [if_pos e]
      exact Or.inr ⟨b, rfl, eK b b2⟩
    · rw [if_neg e]
      rcases a1 g hg with z | ⟨d, z1, z2⟩
      · exact Or.inl z
      · exact Or.inr ⟨d, z1, eK d z2⟩
  · rw [eR] at q1 q2
    by_cases e1 : g = f
    · by_cases e2 : k = f
      · rw [e1, e2]
      · rw [if_pos e1] at q1
        rw [if_neg e2] at q2
        cases q1
        exact absurd q2 (b3 k hk)
    · by_cases e2 : k = f
      · rw [if_neg e1] at q1
        rw [if_pos e2] at q2
        cases q2
        exact absurd q1 (b3 g hg)
      · rw [if_neg e1] at q1
        rw [if_neg e2] at q2
        exact a2 g k d hg hk q1 q2
  · rw [eR]
    by_cases e : g = f
    · rw [if_pos e]
      intro q
      cases q
      exact absurd b2.1 (Nat.lt_irrefl _)
    · rw [if_neg e]
      intro q
      rcases a1 g hg with z | ⟨d, z1, z2⟩
      · rw [z] at q
        cases q
      · rw [z1] at q
        cases q
        exact absurd z2.1 (Nat.lt_irrefl _)
set_option maxRecDepth 100000 in
theorem y62 (h : CV s t ns) (hl : Ly tt (cCc xs) s) (x1 x2 : Int32) : Cm s t ns pI (dm62 x1 x2 s) := by
  unfold dm62 dm62_8
  rcases y55 x1 with ⟨-, e⟩ | ⟨hx, e⟩
  · rw [e]
    simp only [bu_some]
    rw [if_pos trivial]
    exact Cm.x h hl (Or.inr rfl) (by decide)
  · rw [e, d40 h.2.1.1.1 h.2.1.2.1]
    simp only [bu_some]
    rw [if_neg (by decide)]
    by_cases c : 0 ≤ x2.toInt ∧ x2.toInt < ns.length
    · rw [b01_t c, if_neg (by decide)]
      obtain ⟨b, b1, b2, b3⟩ := h.2.2.1.2.2
      rw [b1, vN_ref, if_pos b2]
      have h3 := tr_at hl b2
      have k108 : (sT s 108).2 = 256 := by rw [hl.T (a := 108) (p := (102, 256)) 30 rfl rfl]
      obtain ⟨v, s1, j, g1, g2, g3⟩ := k63 (s := s) (b := b) (t := t) (ns := ns) h.1.1 h.1.2.1 h.1.2.2 h.2.1.1.1 h.2.1.2 ⟨b2, h3, by rw [(hl.tr b2).2.2.2.2.2.2.1], k108, ⟨(RC.ly hl).1, RC.ly hl, TF.ly hl, ES.ly hl⟩, h.2.2.2.2.1, h.2.2.2.2.2.1⟩
      have hl1 := (dt63 (sio := true) (d := 2000) (by decide) hl b2 g1).1
      rw [g1]
      simp only [bv_some]
      have hc1 : ch (fun a k => AC b a k ∨ (a = 106 ∧ k = 6)) s s1 := ((ch.refl _ s).wR (Or.inr ⟨rfl, rfl⟩)).trans (g2.1.mono fun a k z => Or.inl z)
      have hV : CV s1 t ns := h.rd hl b2 hc1 (fun a k z => by unfold AC at z; omega) g2.2.2.w g2.2.2.2
      have e78 : sR s1 78 6 = .ref b := (hc1.r (by unfold AC; omega)).trans b1
      have hb1 : aK s1 b 3 := hc1.k.mpr b2
      have hL1 : 149 ≤ sL s1 := hl1.1
      have hx8 : x1.toInt.toNat < 8 := by omega
      split
      · rw [if_pos (aB_iff.mpr hx)]
        rcases hV.2.2.1.1 x1.toInt.toNat hx8 with z | ⟨d, z1, z2⟩
        · rw [show sR s1 100 (jN x1) = .null from z, vN_null, e78, vN_ref, if_pos hb1, if_pos (aB_iff.mpr hx)]
          simp only [nx_eq]
          rw [if_pos (aB_iff.mpr hx)]
          unfold dm62_46
          simp only [nx_eq]
          have u1 : CU (wI (wR s1 100 (jN x1) (.ref b)) 101 (jN x1) x2) t ns := hV.u.of hl1 (A := fun a _ => a = 100 ∨ a = 101) (((ch.refl _ s1).wR (Or.inl rfl)).wI (Or.inr rfl)) (fun a k z => by omega)
          have l1 : Ly tt (cCc xs) (wI (wR s1 100 (jN x1) (.ref b)) 101 (jN x1) x2) := (ly_100 hl1).wId (by decide)
          have u2 : CU (nTree (wI (wR s1 100 (jN x1) (.ref b)) 101 (jN x1) x2)) t ns := u1.gx l1 (gx_nT _) (nT_w _ hL1)
          have l2 := (lay_tree l1.gL l1).1
          have u3 := u2.of l2 (A := fun a _ => a = 78) ((ch.refl _ _).wR (k := 6) (v := .ref (sL s1)) rfl) (fun a k z => by omega)
          refine ⟨_, _, rfl, Or.inl ⟨v, rfl⟩, u3.v (td_new hV.2.2.1 hL1 hx8 e78), ?_⟩
          have w1 : gw s1 (nTree (wI (wR s1 100 (jN x1) (.ref b)) 101 (jN x1) x2)) := gw_nT (wI (wR s1 100 (jN x1) (.ref b)) 101 (jN x1) x2)
          exact gw.d hc1 (w1.tr (A := fun a _ => a = 78) ((ch.refl _ _).wR rfl))
        · rw [show sR s1 100 (jN x1) = .ref d from z1, vN_ref, if_pos z2, e78, vN_ref, if_pos hb1, if_pos (aB_iff.mpr hx)]
          simp only [nx_eq]
          rw [if_pos (aB_iff.mpr hx)]
          unfold dm62_46
          simp only [nx_eq]
          have g9 : ch (fun a _ => a = 100 ∨ a = 101 ∨ a = 78) s1 (wR (wI (wR s1 100 (jN x1) (.ref b)) 101 (jN x1) x2) 78 6 (.ref d)) := (((ch.refl _ s1).wR (Or.inl rfl)).wI (Or.inr (Or.inl rfl))).wR (Or.inr (Or.inr rfl))
          have u1 : CU (wR (wI (wR s1 100 (jN x1) (.ref b)) 101 (jN x1) x2) 78 6 (.ref d)) t ns := hV.u.of hl1 g9 (fun a k z => by omega)
          exact ⟨_, _, rfl, Or.inl ⟨v, rfl⟩, u1.v (td_old hV.2.2.1 hx8 z1 e78), gw.d hc1 (gw_ch g9)⟩
      · exact ⟨_, s1, rfl, Or.inl ⟨v, rfl⟩, hV, gw_ch hc1⟩
    · rw [b01_f c, if_pos rfl]
      exact Cm.x h hl (Or.inr rfl) (by decide)
set_option maxRecDepth 100000 in
theorem y128 (h : CV s t ns) (hl : Ly tt (cCc xs) s) (hc : aK s c 3) (r q : Int32) : ∃ s1, dm128 c r q s = some s1 ∧ CV s1 t ns ∧ ch (fun a _ => a = c + 1) s s1 := by
  obtain ⟨i, N, hN, hk⟩ := kn_of (h.2.2.2.1 c hc) h.2.2.2.2
  obtain ⟨s1, g1, g2, g3⟩ := k128 hk (tr_at hl hc) hN r q
  exact ⟨s1, g1, h.tree hl hc g3 (fun a k z => by omega) g2.1.2.2.w, g3⟩
set_option maxRecDepth 100000 in
theorem y125m (h : CV s t ns) (hl : Ly tt (cCc xs) s) (hb : aK s b 3) (hc : aK s c 3) {x1 x5 : Int32} (hx : 0 ≤ x5.toInt ∧ x5.toInt < 8) (hbc : x5 = x1 ∨ c ≠ b) (x2 x3 x4 : Int32) : ∃ s1, dm125_46 x1 x2 x3 x4 x5 b c s = some (.inl none, s1) ∧ CV s1 t ns ∧ ch (fun _ _ => True) s s1 := by
  have f52 : ∀ s, CV s t ns → Ly tt (cCc xs) s → aK s c 3 → ∃ s1, dm125_52 x2 x3 x4 x5 c s = some (.inl none, s1) ∧ CV s1 t ns ∧ ch (fun _ _ => True) s s1 := by
    intro s h hl hc
    obtain ⟨s1, g1, g2, g3⟩ := y128 h hl hc x2 x3
    have l1 := (dt128 (sio := true) (d := 2000) (by decide) hl hc g1).1
    unfold dm125_52
    rw [g1]
    simp only [bu_some]
    rw [if_pos (aB_iff.mpr hx)]
    simp only [nx_eq]
    have g4 : ch (fun a _ => a = 101) s1 (wI s1 101 (jN x5) x4) := (ch.refl _ s1).wI rfl
    exact ⟨_, rfl, g2.of l1 g4 (fun a k z => Or.inl z), (g3.mono fun _ _ _ => trivial).trans (g4.mono fun _ _ _ => trivial)⟩
  unfold dm125_46
  by_cases e : x5 = x1
  · rw [if_pos e]
    exact f52 s h hl hc
  · rw [if_neg e]
    obtain ⟨s1, g1, g2, g3⟩ := k127 hl hc hb (hbc.resolve_left e) (h.2.2.2.1 b hb)
    have l1 := (dt127 (sio := true) (d := 2000) (by decide) hl hc hb g1).1
    rw [g1]
    simp only [bu_some]
    obtain ⟨s2, k1, k2, k3⟩ := f52 s1 (h.tree hl hc g3 (fun a k z => Or.inr z) g2) l1 (g3.k.mpr hc)
    exact ⟨s2, k1, k2, (g3.mono fun _ _ _ => trivial).trans k3⟩
set_option maxRecDepth 100000 in
theorem y126 (x : Int32) : ∃ v, dm126 x = some v := by
  unfold dm126
  repeat' split
  all_goals exact ⟨_, rfl⟩
set_option maxRecDepth 100000 in
theorem y125 (h : CV s t ns) (hl : Ly tt (cCc xs) s) (x1 x2 x3 x4 x5 : Int32) : Cm s t ns pM (dm125 x1 x2 x3 x4 x5 s) := by
  have hL : 149 ≤ sL s := hl.1
  unfold dm125 dm125_14 dm125_25
  rcases y54 h.2.2.1 x1 with e | ⟨b, e, e2, e3, e4⟩
  · obtain ⟨r, er⟩ : ∃ r, dm55 x5 = some r := by
      rcases y55 x5 with ⟨-, z⟩ | ⟨-, z⟩
      · exact ⟨_, z⟩
      · exact ⟨_, z⟩
    rw [e, er]
    simp only [bu_some, vN_null, ite_self]
    exact Cm.x h hl (Or.inr (Or.inl rfl)) (by decide)
  · rw [e]
    simp only [bu_some, vN_ref]
    rw [if_pos e2]
    rcases y55 x5 with ⟨-, z⟩ | ⟨hx, z⟩
    · rw [z]
      simp only [bu_some]
      rw [if_pos trivial]
      exact Cm.x h hl (Or.inr (Or.inl rfl)) (by decide)
    · obtain ⟨r2, w2⟩ := y126 x2
      obtain ⟨r3, w3⟩ := y126 x3
      rw [z, d40 h.2.1.1.1 h.2.1.2.1, w2, w3]
      simp only [bu_some]
      rw [if_neg (by decide)]
      split
      · exact Cm.x h hl (Or.inr (Or.inl rfl)) (by decide)
      · split
        · exact Cm.x h hl (Or.inr (Or.inr rfl)) (by decide)
        · split
          · exact Cm.x h hl (Or.inr (Or.inr rfl)) (by decide)
          · rw [if_pos (aB_iff.mpr hx)]
            rcases h.2.2.1.1 x5.toInt.toNat (by omega) with z | ⟨d, z1, z2⟩
            · have hn : sR s 100 (jN x5) = .null := z
              rw [hn, vN_null]
              simp only [nx_eq]
              rw [if_pos (aB_iff.mpr hx)]
              have l1 := (lay_tree hl.gL hl).1
              have u1 : CU (nTree s) t ns := h.u.gx hl (gx_nT s) (nT_w s hL)
              have u2 : CU (wR (nTree s) 100 (jN x5) (.ref (sL s))) t ns := u1.of l1 (A := fun a _ => a = 100) ((ch.refl _ _).wR rfl) (fun a k z => by omega)
              have v2 : CV (wR (nTree s) 100 (jN x5) (.ref (sL s))) t ns := u2.v (TD.nT h.2.2.1 hL (show x5.toInt.toNat < 8 by omega) z)
              have l2 : Ly tt (cCc xs) (wR (nTree s) 100 (jN x5) (.ref (sL s))) := ly_100 l1
              have eN : aK (wR (nTree s) 100 (jN x5) (.ref (sL s))) (sL s) 3 := (lay_tree hl.gL hl).2.2
              obtain ⟨s1, k1, k2, k3⟩ := y125m (x1 := x1) (x5 := x5) v2 l2 (b := b) (c := sL s) (nT_K e2) eN hx (Or.inr (by have := e2.1; omega)) x2 x3 x4
              rw [k1]
              refine ⟨_, s1, rfl, Or.inl rfl, k2, ?_⟩
              exact ((gw_nT s).tr (A := fun a _ => a = 100) ((ch.refl _ _).wR (k := jN x5) (v := .ref (sL s)) rfl)).tr k3
            · rw [show sR s 100 (jN x5) = .ref d from z1, vN_ref, if_pos z2]
              obtain ⟨s1, k1, k2, k3⟩ := y125m (x1 := x1) (x5 := x5) h hl (b := b) (c := d) e2 z2 hx (by
                by_cases q : d = b
                · left
                  subst q
                  have := h.2.2.1.2.1 x5.toInt.toNat x1.toInt.toNat d (by omega) (by omega) z1 e4
                  rw [iEq]
                  omega
                · exact Or.inr q) x2 x3 x4
              rw [k1]
              exact ⟨_, s1, rfl, Or.inl rfl, k2, gw_ch k3⟩
set_option maxRecDepth 100000 in
theorem y133 (h : CV s t ns) (hl : Ly tt (cCc xs) s) (x1 x2 x3 x4 : Int32) : Cm s t ns pJ (dm133 x1 x2 x3 x4 s) := by
  have loop : ∀ (m f n : Nat) (x5 : Int32) (s : aS), CV s t ns → Ly tt (cCc xs) s → f + m = 8 → m < n → ∃ v s1, dm133_29 n x1 x2 x3 x4 x5 (Int32.ofNat f) s = some (.inl (some (.int v)), s1) ∧ CV s1 t ns ∧ ch (fun _ _ => True) s s1 := by
    intro m
    induction m with
    | zero =>
      intro f n x5 s h hl h1 h2
      obtain ⟨n, rfl⟩ : ∃ q, n = q + 1 := ⟨n - 1, by omega⟩
      have hf : f = 8 := by omega
      subst hf
      rw [dm133_29, if_pos (by decide)]
      exact ⟨x5, s, rfl, h, ch.refl _ s⟩
    | succ m ih =>
      intro f n x5 s h hl h1 h2
      obtain ⟨n, rfl⟩ : ∃ q, n = q + 1 := ⟨n - 1, by omega⟩
      rw [dm133_29, if_neg (fun q => by have := (nle_iff (a := 8) (by omega) (by omega)).mp q; omega)]
      rcases y54 h.2.2.1 (Int32.ofNat f) with e | ⟨b, e, e2, e3, e4⟩
      · rw [e]
        simp only [bu_some, vN_null]
        unfold dm133_56
        rw [ofNat_succ (by omega)]
        exact ih (f + 1) n x5 s h hl (by omega) (by omega)
      · rw [e]
        simp only [bu_some, vN_ref]
        rw [if_pos e2, if_pos (aB_of (by omega) (by omega))]
        have f50 : ∀ y3, ∃ v s1, dm133_50 (dm133_29 n) x1 x2 x3 x4 (Int32.ofNat f) x5 b x1 y3 s = some (.inl (some (.int v)), s1) ∧ CV s1 t ns ∧ ch (fun _ _ => True) s s1 := by
          intro y3
          obtain ⟨i, N, hN, hk⟩ := kn_of (h.2.2.2.1 b e2) h.2.2.2.2
          obtain ⟨v, s1, g1, g2, g3⟩ := k134 hk (tr_at hl e2) hN x1 y3 x2 x3 x4
          have l1 := (dt134 (sio := true) (d := 2000) (by decide) hl e2 g1).1
          unfold dm133_50 dm133_56
          rw [g1]
          simp only [bv_some]
          rw [ofNat_succ (by omega)]
          obtain ⟨v2, s2, k1, k2, k3⟩ := ih (f + 1) n (x5 + v) s1 (h.tree hl e2 g3 (fun a k z => by omega) g2.1.2.2.w) l1 (by omega) (by omega)
          exact ⟨v2, s2, k1, k2, (g3.mono fun _ _ _ => trivial).trans k3⟩
        split
        · exact f50 1
        · exact f50 0
  obtain ⟨r8, w8⟩ := e132 x2
  obtain ⟨r4, w4⟩ := y126 x4
  unfold dm133 dm133_20
  rw [d40 h.2.1.1.1 h.2.1.2.1, w8, w4]
  simp only [bu_some]
  split
  · exact Cm.x h hl (Or.inr (Or.inl rfl)) (by decide)
  · split
    · exact Cm.x h hl (Or.inr (Or.inr rfl)) (by decide)
    · split
      · exact Cm.x h hl (Or.inr (Or.inr rfl)) (by decide)
      · split
        · exact Cm.x h hl (Or.inr (Or.inr rfl)) (by decide)
        · obtain ⟨v, s1, k1, k2, k3⟩ := loop 8 0 5000 0 s h hl (by omega) (by omega)
          have k1 : dm133_29 5000 x1 x2 x3 x4 0 0 s = some (.inl (some (.int v)), s1) := k1
          rw [k1]
          exact ⟨_, s1, rfl, Or.inl ⟨v, rfl⟩, k2, gw_ch k3⟩
set_option maxRecDepth 100000 in
theorem ok_er {i : Nat} (h : nsOk ns) : nsOk (ns.eraseIdx i) := ⟨Nat.le_trans (List.length_eraseIdx_le ns i) h.1, fun n hn => h.2 n (List.mem_of_mem_eraseIdx hn)⟩
set_option maxRecDepth 100000 in
theorem y61 (x y : Int32) : ∃ v, dm61 x y = some v := by
  unfold dm61
  repeat' split
  all_goals exact ⟨_, rfl⟩
set_option maxRecDepth 100000 in
theorem y52 (h : CV s t ns) (hl : Ly tt (cCc xs) s) (x : Int32) : (¬ (0 ≤ x.toInt ∧ x.toInt < ns.length) ∧ dm52 x s = some (.inr 2, nw s 82 0)) ∨ ((0 ≤ x.toInt ∧ x.toInt < ns.length) ∧ ∃ s1, dm52 x s = some (.inl none, s1) ∧ CV s1 t (ns.eraseIdx x.toInt.toNat) ∧ gw s s1) := by
  have loop : ∀ (m f n : Nat) (ns : List (List Int32)) (s : aS), CV s t ns → Ly tt (cCc xs) s → f + m = 8 → m < n → ∃ s1, dm52_16 n x (Int32.ofNat f) s = some (.inl none, s1) ∧ CV s1 t ns ∧ ch (fun _ _ => True) s s1 := by
    intro m
    induction m with
    | zero =>
      intro f n ns s h hl h1 h2
      obtain ⟨n, rfl⟩ : ∃ q, n = q + 1 := ⟨n - 1, by omega⟩
      have hf : f = 8 := by omega
      subst hf
      rw [dm52_16, if_pos (by decide)]
      exact ⟨s, rfl, h, ch.refl _ s⟩
    | succ m ih =>
      intro f n ns s h hl h1 h2
      obtain ⟨n, rfl⟩ : ∃ q, n = q + 1 := ⟨n - 1, by omega⟩
      rw [dm52_16, if_neg (fun q => by have := (nle_iff (a := 8) (by omega) (by omega)).mp q; omega)]
      rcases y54 h.2.2.1 (Int32.ofNat f) with e | ⟨b, e, e2, e3, e4⟩
      · rw [e]
        simp only [bu_some, vN_null]
        unfold dm52_38
        rw [ofNat_succ (by omega)]
        exact ih (f + 1) n ns s h hl (by omega) (by omega)
      · obtain ⟨i, N, hN, hk⟩ := kn_of (h.2.2.2.1 b e2) h.2.2.2.2
        obtain ⟨s1, g1, g2, g3⟩ := k56 hk (tr_at hl e2) hN x
        have l1 := (dt56 (sio := true) (d := 2000) (by decide) hl e2 g1).1
        have v1 : CV s1 t ns := h.tree hl e2 g3 (fun a k z => by omega) g2.1.2.2.w
        rw [e]
        simp only [bu_some, vN_ref]
        rw [if_pos e2, g1]
        simp only [bu_some]
        obtain ⟨r, er⟩ := y61 (sI s1 101 (jN (Int32.ofNat f))) x
        rw [if_pos (aB_of (by omega) (by omega)), er]
        simp only [bu_some, nx_eq]
        rw [if_pos (aB_of (by omega) (by omega))]
        unfold dm52_38
        rw [ofNat_succ (by omega)]
        have g4 : ch (fun a _ => a = 101) s1 (wI s1 101 (jN (Int32.ofNat f)) r) := (ch.refl _ s1).wI rfl
        obtain ⟨s2, k1, k2, k3⟩ := ih (f + 1) n ns (wI s1 101 (jN (Int32.ofNat f)) r) (v1.of l1 g4 (fun a k z => Or.inl z)) (l1.wId (by decide)) (by omega) (by omega)
        exact ⟨s2, k1, k2, ((g3.mono fun _ _ _ => trivial).trans (g4.mono fun _ _ _ => trivial)).trans k3⟩
  unfold dm52
  rw [d40 h.2.1.1.1 h.2.1.2.1]
  simp only [bu_some]
  by_cases hx : 0 ≤ x.toInt ∧ x.toInt < ns.length
  · right
    refine ⟨hx, ?_⟩
    rw [b01_t hx, if_neg (by decide)]
    obtain ⟨s1, g1, g2, g3⟩ := d53 (i := x.toInt.toNat) h.2.1.1 (RC.ly hl) h.2.1.2 (TF.ly hl) (by omega)
    rw [← ofNat_of (x := x) hx.1] at g1
    have hl1 : Ly tt (cCc xs) s1 := (dt53 (sio := true) (d := 2000) (by decide) hl g1).1
    rw [g1]
    simp only [bu_some]
    obtain ⟨s2, k1, k2, k3⟩ := loop 8 0 5000 _ s1 (h.nm hl g3 g2 (ok_er h.2.1.2)) hl1 (by omega) (by omega)
    exact ⟨s2, k1, k2, gw_ch ((g3.mono fun _ _ _ => trivial).trans k3)⟩
  · left
    rw [b01_f hx, if_pos rfl]
    exact ⟨hx, rfl⟩
end CVs
end
section
/-! what changes of nodes leave alone -/
def nmp (g : Nd → Nd) : Prop := ∀ d, (g d 0 = d 0 ∨ (isRf d ∧ g d 0 = 2)) ∧ g d 1 = d 1
set_option maxRecDepth 100000 in
theorem ft_map {g : Nd → Nd} (hg : ∀ d, g d 1 = d 1) : ∀ (L : List Nd) (n : Nat), ft L n → ft (L.map g) n
  | [], n, h => h
  | d :: L, n, h => by
    obtain ⟨h1, h2⟩ := h
    refine ⟨h1, ?_⟩
    have e : arN (g d) = arN d := by unfold arN; rw [hg]
    rw [e]
    exact ft_map hg L _ h2
set_option maxRecDepth 100000 in
theorem ar_map {d e : Nd} (h : arOk d) (h0 : e 0 = d 0 ∨ (isRf d ∧ e 0 = 2)) (h1 : e 1 = d 1) : arOk e := by
  rcases h0 with h0 | ⟨hr, h0⟩
  · unfold arOk
    rw [h0, h1]
    exact h
  · have d1 : d 1 = 0 := h.2.2.2.1 (by
      rcases hr with q | q
      · rw [q]
        decide
      · rw [q]
        decide)
    unfold arOk
    rw [h0, h1, d1]
    decide
set_option maxRecDepth 100000 in
theorem lo0 (d : Nd) : loM d 0 = 2 := rfl
set_option maxRecDepth 100000 in
theorem lo1 (d : Nd) : loM d 1 = d 1 := rfl
set_option maxRecDepth 100000 in
theorem lo2 (d : Nd) : loM d 2 = -1 := rfl
set_option maxRecDepth 100000 in
theorem ls_map {x : Int32} (hx : 0 ≤ x.toInt) {d : Nd} (h : ndOk d) : (lsM x d 0 = d 0 ∨ (isRf d ∧ lsM x d 0 = 2)) ∧ lsM x d 1 = d 1 := by
  unfold lsM
  by_cases c : d 2 = x
  · rw [if_pos c]
    refine ⟨Or.inr ⟨?_, lo0 d⟩, lo1 d⟩
    refine Classical.byContradiction fun q => ?_
    have e := h.2.2.1 q
    rw [e] at c
    rw [← c] at hx
    exact absurd hx (by decide)
  · rw [if_neg c]
    by_cases c2 : d 2 ≤ x
    · rw [if_pos c2]
      exact ⟨Or.inl rfl, rfl⟩
    · rw [if_neg c2]
      exact ⟨Or.inl (if_neg (by decide)), if_neg (by decide)⟩
set_option maxRecDepth 100000 in
theorem ls_eq {x : Int32} (hx : 0 ≤ x.toInt) {d : Nd} (h : ndOk d) : lsM x d = lsN x d := by
  unfold lsM lsN
  by_cases c : d 2 = x
  · rw [if_pos c, if_pos c, lo_eq (h.c hx c)]
  · rw [if_neg c, if_neg c]
set_option maxRecDepth 100000 in
theorem ls_2 {x : Int32} {n : Nat} (hx : 0 ≤ x.toInt ∧ x.toInt < n) {d : Nd} (h : ndOk d) (h2 : (d 2).toInt < n) : (lsM x d 2).toInt < (n - 1 : Int) := by
  unfold lsM
  by_cases c : d 2 = x
  · rw [if_pos c, lo2]
    show (-1 : Int) < _
    omega
  · rw [if_neg c]
    have hn : (d 2).toInt ≠ x.toInt := fun q => c (iEq.mpr q)
    by_cases c2 : d 2 ≤ x
    · rw [if_pos c2]
      have := iLe.mp c2
      omega
    · rw [if_neg c2]
      have c2 : ¬ (d 2).toInt ≤ x.toInt := fun q => c2 (iLe.mpr q)
      show (if (2 : Nat) = 2 then d 2 - 1 else d 2).toInt < _
      rw [if_pos rfl]
      have e1 : (1 : Int32).toInt = 1 := rfl
      have := h.1
      rw [iSub (by rw [e1]; omega) (by rw [e1]; omega), e1]
      omega
set_option maxRecDepth 100000 in
theorem sh_map {x t k n m ho : Int32} : nmp (shM x t k n m ho) := by
  intro d
  unfold shM
  rcases Classical.em (isRf d ∧ onS x ho d) with c | c
  · rw [b01_t c, if_neg (by decide)]
    rcases Classical.em (loS t k n m d) with c2 | c2
    · rw [b01_t c2, if_neg (by decide)]
      exact ⟨Or.inr ⟨c.1, lo0 d⟩, lo1 d⟩
    · rw [b01_f c2, if_pos rfl]
      have a1 : (0 : Nat) ≠ wA t ∧ (1 : Nat) ≠ wA t := by
        unfold wA
        split <;> exact ⟨by decide, by decide⟩
      have a2 : (0 : Nat) ≠ wB t ∧ (1 : Nat) ≠ wB t := by
        unfold wB
        split <;> exact ⟨by decide, by decide⟩
      exact ⟨Or.inl (by rw [setN_n a2.1, setN_n a1.1]), by rw [setN_n a2.2, setN_n a1.2]⟩
  · rw [b01_f c, if_pos rfl]
    exact ⟨Or.inl rfl, rfl⟩
set_option maxRecDepth 100000 in
theorem sh_2 {x t k n m ho : Int32} {N : Nat} {d : Nd} (h : (d 2).toInt < N) : (shM x t k n m ho d 2).toInt < N := by
  unfold shM
  rcases Classical.em (isRf d ∧ onS x ho d) with c | c
  · rw [b01_t c, if_neg (by decide)]
    rcases Classical.em (loS t k n m d) with c2 | c2
    · rw [b01_t c2, if_neg (by decide), lo2]
      show (-1 : Int) < _
      omega
    · rw [b01_f c2, if_pos rfl]
      have a1 : (2 : Nat) ≠ wA t := by
        unfold wA
        split <;> decide
      have a2 : (2 : Nat) ≠ wB t := by
        unfold wB
        split <;> decide
      rw [setN_n a2, setN_n a1]
      exact h
  · rw [b01_f c, if_pos rfl]
    exact h
set_option maxRecDepth 100000 in
theorem mvM_k {r c : Int32} (d : Nd) : (mvM r c d 0 = d 0 ∨ mvM r c d 0 = 2) ∧ mvM r c d 1 = d 1 ∧ (mvM r c d 2 = d 2 ∨ mvM r c d 2 = -1) := by
  have e : ∀ k, k < 3 → mv4 c (mv3 r (mv2 c (mv1 r d))) k = d k := fun k hk => by rw [mv4_n (by omega), mv3_n (by omega), mv2_n (by omega), mv1_n (by omega)]
  unfold mvM mvE
  split
  · exact ⟨Or.inr (lo0 _), (lo1 _).trans (e 1 (by omega)), Or.inr (lo2 _)⟩
  · split
    · exact ⟨Or.inl (e 0 (by omega)), e 1 (by omega), Or.inl (e 2 (by omega))⟩
    · exact ⟨Or.inl (by rw [srC_k (by omega), srR_k (by omega)]; exact e 0 (by omega)), by rw [srC_k (by omega), srR_k (by omega)]; exact e 1 (by omega), Or.inl (by rw [srC_k (by omega), srR_k (by omega)]; exact e 2 (by omega))⟩
set_option maxRecDepth 100000 in
theorem mv_map {r c : Int32} : nmp (onRf (mvM r c)) := by
  intro d
  rcases Classical.em (isRf d) with q | q
  · rw [onRf_t q]
    obtain ⟨h0, h1, -⟩ := mvM_k (r := r) (c := c) d
    refine ⟨?_, h1⟩
    rcases h0 with h0 | h0
    · exact Or.inl h0
    · exact Or.inr ⟨q, h0⟩
  · rw [onRf_f q]
    exact ⟨Or.inl rfl, rfl⟩
set_option maxRecDepth 100000 in
theorem mv_s2 {r c : Int32} {N : Nat} {d : Nd} (h : (d 2).toInt < N) : (onRf (mvM r c) d 2).toInt < N := by
  rcases Classical.em (isRf d) with q | q
  · rw [onRf_t q]
    rcases (mvM_k (r := r) (c := c) d).2.2 with h0 | h0
    · rw [h0]
      exact h
    · rw [h0]
      show (-1 : Int) < _
      omega
  · rw [onRf_f q]
    exact h
set_option maxRecDepth 100000 in
theorem mv_okd {r c : Int32} {d : Nd} (h : ndOk d) : ndOk (onRf (mvM r c) d) := by
  rcases Classical.em (isRf d) with q | q
  · rw [onRf_t q]
    exact mv_ok h q
  · rw [onRf_f q]
    exact h
set_option maxRecDepth 100000 in
/-- letters of a node, carried over -/
theorem NM.go {s s1 : aS} {f p g q : Nat} {d e : Nd} {l : List Int32} (h : NM s f p (d 0) l) (hR : ∀ w, RL s f p w → RL s1 g q w) (h0 : e 0 = d 0 ∨ (isRf d ∧ e 0 = 2)) : NM s1 g q (e 0) l := by
  rcases h0 with h0 | ⟨hr, h0⟩
  · rw [h0]
    exact ⟨fun z => hR _ (h.1 z), fun z => hR _ (h.2.1 z), h.2.2⟩
  · rw [h0]
    have el : l = [] := h.2.2 (by
      rcases hr with z | z
      · rw [z]
        decide
      · rw [z]
        decide)
    exact ⟨fun z => absurd z (by decide), fun z => absurd z (by decide), fun _ => el⟩
set_option maxRecDepth 100000 in
theorem RL.of {A : Nat → Nat → Prop} {s s1 : aS} {f p : Nat} {w : List Int32} (h : RL s f p w) (g : ch A s s1) (hA : ∀ a k, A a k → a < 137 ∨ 139 < a) : RL s1 f p w := by
  obtain ⟨st, a1, a2, a3, a4⟩ := h
  exact ⟨st, (g.i fun q => by have := hA _ _ q; omega).trans a1, (g.i fun q => by have := hA _ _ q; omega).trans a2, a3, fun j hj => (g.i fun q => by have := hA _ _ q; omega).trans (a4 j hj)⟩
set_option maxRecDepth 100000 in
theorem MLt.of {A : Nat → Nat → Prop} {s s1 : aS} {fs : Nat → Option Fm} {lt : Nat → Nat → List Int32} (h : MLt s fs lt) (g : ch A s s1) (hA : ∀ a k, A a k → a < 137 ∨ 139 < a) : MLt s1 fs lt := fun f hf h9 L q i hi => (h f hf h9 L q i hi).go (fun w z => z.of g hA) (Or.inl rfl)
end
section
/-! move in the reference: the letters go along -/
def ltMv (lt : Nat → Nat → List Int32) (f g : Nat) : Nat → Nat → List Int32 := fun x i => if x = g then lt f i else lt x i
set_option maxRecDepth 100000 in
theorem d223n {s : aS} {p q : Nat} (hp : p < 1152) (hq : q < 1152) : ∃ s', dm223 (Int32.ofNat p) (Int32.ofNat q) s = some s' ∧ sI s' 137 q = sI s 137 p ∧ sI s' 138 q = sI s 138 p ∧ ch (fun a k => (128 ≤ a ∧ a ≤ 138) ∧ k = q) s s' := by
  have hbp : aB (Int32.ofNat p) 1152 := by rw [aB_iff, iOfNat (by omega)]; omega
  have hbq : aB (Int32.ofNat q) 1152 := by rw [aB_iff, iOfNat (by omega)]; omega
  have ejp : jN (Int32.ofNat p) = p := jN_of (by omega)
  have ejq : jN (Int32.ofNat q) = q := jN_of (by omega)
  unfold dm223
  simp only [if_pos hbp, if_pos hbq, nx_eq, ejp, ejq]
  refine ⟨_, rfl, ?_, ?_, (((((((((((ch.refl _ s).wI (by omega)).wI (by omega)).wI (by omega)).wI (by omega)).wI (by omega)).wI (by omega)).wI (by omega)).wI (by omega)).wI (by omega)).wI (by omega)).wI (by omega)⟩
  · simp [sI_wI]
  · simp [sI_wI]
set_option maxRecDepth 100000 in
theorem d224n {f g n : Nat} {r c ho : Int32} (hf : f < 8) (hg : g < 8) (h8 : n ≤ 128) : ∀ (m j k : Nat) (s : aS), j + m = n → m < k → sI s 127 f = Int32.ofNat n → ∃ s', dm224_44 k (Int32.ofNat f) r c ho (Int32.ofNat g) (Int32.ofNat j) s = dm224_85 5000 (Int32.ofNat f) ho (Int32.ofNat g) 0 s' ∧ (∀ i, j ≤ i → i < n → sI s' 137 (128 * g + i) = sI s 137 (128 * f + i) ∧ sI s' 138 (128 * g + i) = sI s 138 (128 * f + i)) ∧ ch (fun a q => (128 ≤ a ∧ a ≤ 138) ∧ 128 * g + j ≤ q ∧ q < 128 * g + n) s s' := by
  intro m
  induction m with
  | zero =>
    intro j k s hj hk h1
    obtain ⟨k, rfl⟩ : ∃ q, k = q + 1 := ⟨k - 1, by omega⟩
    rw [dm224_44, if_pos (by rw [aB_iff, iOfNat (by omega)]; omega), jN_of (i := f) (by omega), h1, if_pos (by rw [iLe, iOfNat (by omega), iOfNat (by omega)]; omega)]
    exact ⟨s, rfl, fun i hi hin => by omega, ch.refl _ s⟩
  | succ m ih =>
    intro j k s hj hk h1
    obtain ⟨k, rfl⟩ : ∃ q, k = q + 1 := ⟨k - 1, by omega⟩
    obtain ⟨s1, g1, g2, g4, g3⟩ := d223n (s := s) (p := 128 * f + j) (q := 128 * g + j) (by omega) (by omega)
    have hq : aB (Int32.ofNat (128 * g + j)) 1152 := by rw [aB_iff, iOfNat (by omega)]; omega
    have eq9 : jN (Int32.ofNat (128 * g + j)) = 128 * g + j := jN_of (by omega)
    rw [dm224_44, if_pos (by rw [aB_iff, iOfNat (by omega)]; omega), jN_of (i := f) (by omega), h1, if_neg (by rw [iLe, iOfNat (by omega), iOfNat (by omega)]; omega), i128 (by omega) (by omega), i128 (by omega) (by omega), g1]
    simp only [bu_some, if_pos hq, eq9]
    unfold dm224_76 dm224_81
    rw [ofNat_succ (by omega)]
    have next : ∀ s2, sI s2 137 (128 * g + j) = sI s 137 (128 * f + j) → sI s2 138 (128 * g + j) = sI s 138 (128 * f + j) → ch (fun a q => (128 ≤ a ∧ a ≤ 138) ∧ q = 128 * g + j) s s2 → ∃ s', dm224_44 k (Int32.ofNat f) r c ho (Int32.ofNat g) (Int32.ofNat (j + 1)) s2 = dm224_85 5000 (Int32.ofNat f) ho (Int32.ofNat g) 0 s' ∧ (∀ i, j ≤ i → i < n → sI s' 137 (128 * g + i) = sI s 137 (128 * f + i) ∧ sI s' 138 (128 * g + i) = sI s 138 (128 * f + i)) ∧ ch (fun a q => (128 ≤ a ∧ a ≤ 138) ∧ 128 * g + j ≤ q ∧ q < 128 * g + n) s s' := by
      intro s2 t1 t3 t2
      obtain ⟨s', a1, a2, a3⟩ := ih (j + 1) k s2 (by omega) (by omega) ((t2.i (by omega)).trans h1)
      refine ⟨s', a1, fun i hi hin => ?_, (t2.mono fun a q z => by omega).trans (a3.mono fun a q z => by omega)⟩
      by_cases e : i = j
      · subst e
        exact ⟨(a3.i (by omega)).trans t1, (a3.i (by omega)).trans t3⟩
      · obtain ⟨b1, b2⟩ := a2 i (by omega) hin
        exact ⟨b1.trans (t2.i (by omega)), b2.trans (t2.i (by omega))⟩
    have moved : ∃ s', (bu (dm226 (Int32.ofNat (128 * g + j)) r c s1) fun s3 => dm224_44 k (Int32.ofNat f) r c ho (Int32.ofNat g) (Int32.ofNat (j + 1)) s3) = dm224_85 5000 (Int32.ofNat f) ho (Int32.ofNat g) 0 s' ∧ (∀ i, j ≤ i → i < n → sI s' 137 (128 * g + i) = sI s 137 (128 * f + i) ∧ sI s' 138 (128 * g + i) = sI s 138 (128 * f + i)) ∧ ch (fun a q => (128 ≤ a ∧ a ≤ 138) ∧ 128 * g + j ≤ q ∧ q < 128 * g + n) s s' := by
      obtain ⟨s2, k1, k2, k3⟩ := d226 (s := s1) (p := 128 * g + j) (d := fun w => sI s1 (128 + w) (128 * g + j)) (by omega) (fun w hw => rfl) r c
      rw [k1]
      exact next s2 ((k3.i (by omega)).trans g2) ((k3.i (by omega)).trans g4) (g3.trans (k3.mono fun a q z => by omega))
    split
    · exact moved
    · split
      · exact moved
      · exact next s1 g2 g4 g3
set_option maxRecDepth 100000 in
theorem d224e {s : aS} {f g : Nat} {r c ho h0 : Int32} {fs : Nat → Option Fm} {lt : Nat → Nat → List Int32} {L : List Nd} (h : MM s fs) (hc : MLt s fs lt) (hf : f < 8) (hg : g < 8) (hL : fs f = some (h0, L)) : ∃ s', dm224_44 5000 (Int32.ofNat f) r c ho (Int32.ofNat g) 0 s = some s' ∧ MM s' (fsMove f g r c ho (fun r c => onRf (mvM r c)) L fs) ∧ MLt s' (fsMove f g r c ho (fun r c => onRf (mvM r c)) L fs) (ltMv lt f g) ∧ ch (fun a _ => 125 ≤ a ∧ a ≤ 139) s s' := by
  obtain ⟨s', a1, a2, a3⟩ := d224m (r := r) (c := c) (ho := ho) h hf hg hL
  obtain ⟨b1, b2, b3⟩ := (h f hf).2 h0 L hL
  have h8 := b3.2.1
  obtain ⟨s1, k1, k2, k3⟩ := d224n (r := r) (c := c) (ho := ho) hf hg h8 L.length 0 5000 s (by omega) (by omega) b3.1
  obtain ⟨s2, m1, m2, m3, m4, m5, m6⟩ := d224t (ho := ho) hf hg 256 0 5000 s1 (by omega) (by omega)
  have k1 : dm224_44 5000 (Int32.ofNat f) r c ho (Int32.ofNat g) 0 s = dm224_85 5000 (Int32.ofNat f) ho (Int32.ofNat g) 0 s1 := k1
  have m1 : dm224_85 5000 (Int32.ofNat f) ho (Int32.ofNat g) 0 s1 = some s2 := m1
  have e2 : s2 = s' := by
    have := (k1.trans m1).symm.trans a1
    exact Option.some.inj this
  subst e2
  refine ⟨s2, a1, a2, fun x hx h9 L9 q i hi => ?_, a3⟩
  unfold fsMove at q
  unfold ltMv
  by_cases e : x = g
  · subst e
    rw [if_pos rfl] at q
    rw [if_pos rfl]
    cases q
    have hi2 : i < L.length := by rw [List.length_map] at hi; exact hi
    have n0 := hc f hf h0 L hL i hi2
    rw [List.getElem_map]
    refine n0.go (fun w hw => ?_) (mv_map L[i]).1
    obtain ⟨st, r1, r2, r3, r4⟩ := hw
    obtain ⟨p1, p2⟩ := k2 i (by omega) hi2
    refine ⟨st, (m6.i (by omega)).trans (p1.trans r1), (m6.i (by omega)).trans (p2.trans r2), r3, fun j hj => ?_⟩
    rw [show 256 * x + st + j = 256 * x + (st + j) by omega, m5 (st + j) (by omega) (by omega), k3.i (by omega), show 256 * f + (st + j) = 256 * f + st + j by omega]
    exact r4 j hj
  · rw [if_neg e] at q
    rw [if_neg e]
    have n0 := hc x hx h9 L9 q i hi
    have h128 := ((h x hx).2 h9 L9 q).2.2.2.1
    refine n0.go (fun w hw => ?_) (Or.inl rfl)
    obtain ⟨st, r1, r2, r3, r4⟩ := hw
    exact ⟨st, (m6.i (by omega)).trans ((k3.i (by omega)).trans r1), (m6.i (by omega)).trans ((k3.i (by omega)).trans r2), r3, fun j hj => (m6.i (by omega)).trans ((k3.i (by omega)).trans (r4 j hj))⟩
set_option maxRecDepth 100000 in
theorem d224z {s : aS} {ns : List (List Int32)} {fs : Nat → Option Fm} (hs : SM s ns) (hn : nsOk ns) (h : MM s fs) {x1 x2 x3 x4 x5 : Int32} (hV : mvV ns fs x1 x4 x5) (hw : wayP x2 ∧ wayP x3) : dm224 x1 x2 x3 x4 x5 s = dm224_44 5000 x1 x2 x3 x4 x5 0 (wI s 121 0 0) := by
  have h8 := hn.1
  have a1 : x2 < -1048576 ↔ x2.toInt < -1048576 := iLt
  have a2 : 1048576 < x2 ↔ 1048576 < x2.toInt := iLt
  have a3 : x3 < -1048576 ↔ x3.toInt < -1048576 := iLt
  have a4 : x3 ≤ 1048576 ↔ x3.toInt ≤ 1048576 := iLe
  have l1 : x5 < 0 ↔ x5.toInt < 0 := iLt
  have l2 : 7 < x5 ↔ 7 < x5.toInt := iLt
  obtain ⟨v1, v2, v3⟩ := hV
  unfold wayP at hw
  unfold dm224
  rw [if_neg (fun q => by have := a1.mp q; omega), if_neg (fun q => by have := a2.mp q; omega), if_neg (fun q => by have := a3.mp q; omega), if_pos (a4.mpr (by omega))]
  unfold dm224_15
  rw [if_neg (fun q => by have := l1.mp q; omega), if_neg (fun q => by have := l2.mp q; omega)]
  rcases d225 h x1 with ⟨e1, e2⟩ | ⟨h0, L, e1, hx, e2, -⟩
  · exact absurd e1 v2
  · rw [e2, d181 hs h8]
    simp only [bu_some]
    rw [if_pos trivial, b01_f (fun q => q v3), if_pos rfl, if_pos trivial]
    unfold dm224_37
    rw [nx_eq]
    exact if_pos (show (0 : Int32) ≤ 0 by decide)
set_option maxRecDepth 100000 in
/-- move in the reference, with its letters -/
theorem d224x {s : aS} {ns : List (List Int32)} {fs : Nat → Option Fm} {lt : Nat → Nat → List Int32} (hs : SM s ns) (hn : nsOk ns) (h : MM s fs) (hc : MLt s fs lt) (x1 x2 x3 x4 x5 : Int32) :
    (¬ mvV ns fs x1 x4 x5 ∧ dm224 x1 x2 x3 x4 x5 s = some (wI s 121 0 1)) ∨
    (mvV ns fs x1 x4 x5 ∧ ¬ (wayP x2 ∧ wayP x3) ∧ dm224 x1 x2 x3 x4 x5 s = some (wI s 121 0 2)) ∨
    (mvV ns fs x1 x4 x5 ∧ (wayP x2 ∧ wayP x3) ∧ ∃ h0 L s', fAt fs x1 = some (h0, L) ∧ dm224 x1 x2 x3 x4 x5 s = some s' ∧ MM s' (fsMove x1.toInt.toNat x5.toInt.toNat x2 x3 x4 (fun r c => onRf (mvM r c)) L fs) ∧ MLt s' (fsMove x1.toInt.toNat x5.toInt.toNat x2 x3 x4 (fun r c => onRf (mvM r c)) L fs) (ltMv lt x1.toInt.toNat x5.toInt.toNat) ∧ sI s' 121 0 = 0 ∧ ch (fun a k => (a = 121 ∧ k = 0) ∨ (125 ≤ a ∧ a ≤ 139)) s s') := by
  rcases d224 hs hn h x1 x2 x3 x4 x5 with ⟨c1, e1⟩ | ⟨c1, c2, e1⟩ | ⟨c1, c2, h0, L, s', e0, e1, e2, e3, e4⟩
  · exact Or.inl ⟨c1, e1⟩
  · exact Or.inr (Or.inl ⟨c1, c2, e1⟩)
  · refine Or.inr (Or.inr ⟨c1, c2, h0, L, s', e0, e1, e2, ?_, e3, e4⟩)
    obtain ⟨f1, f2⟩ := fAt_s e0
    have c5 := c1.1
    obtain ⟨s2, k1, k2, k3, k4⟩ := d224e (r := x2) (c := x3) (ho := x4) (f := x1.toInt.toNat) (g := x5.toInt.toNat) (h.of (ch0 s 0) (by omega)) (hc.of (ch0 s 0) (by omega)) (by omega) (by omega) f2
    rw [← ofNat_of (x := x1) (by omega), ← ofNat_of (x := x5) (by omega), ← d224z hs hn h c1 c2, e1] at k1
    have := Option.some.inj k1
    subst this
    exact k3
end
section
/-! what holds of the reference between calls -/
def okA (fs : Nat → Option Fm) (ns : List (List Int32)) : Prop := ∀ f h L, fs f = some (h, L) → ft L 1 ∧ ∀ d ∈ L, ndOk d ∧ arOk d ∧ (d 2).toInt < ns.length
def RV (s : aS) (t : List Int32) (ns : List (List Int32)) (fs : Nat → Option Fm) (lt : Nat → Nat → List Int32) : Prop := MT s t ∧ SM s ns ∧ MM s fs ∧ MLt s fs lt ∧ ltOk fs lt ∧ okA fs ns
def mA (a _k : Nat) : Prop := 121 ≤ a ∧ a ≤ 147
section RVs
variable {s s1 : aS} {t : List Int32} {ns : List (List Int32)} {fs : Nat → Option Fm} {lt : Nat → Nat → List Int32} {A : Nat → Nat → Prop}
set_option maxRecDepth 100000 in
theorem SM.of (h : SM s ns) (g : ch A s s1) (hA : ∀ a k, A a k → (a = 121 ∧ k ≠ 3) ∨ a = 122 ∨ 124 < a) : SM s1 ns := ⟨(g.i fun q => by have := hA _ _ q; omega).trans h.1, fun i hi => ⟨(g.i fun q => by have := hA _ _ q; omega).trans (h.2 i hi).1, fun j hj => (g.i fun q => by have := hA _ _ q; omega).trans ((h.2 i hi).2 j hj)⟩⟩
set_option maxRecDepth 100000 in
/-- the reference's cells are as they were -/
theorem RV.same (h : RV s t ns fs lt) (e : ∀ a k, 121 ≤ a → a ≤ 147 → sI s1 a k = sI s a k) : RV s1 t ns fs lt := by
  obtain ⟨a1, a2, a3, a4, a5⟩ := h
  refine ⟨⟨(e _ _ (by omega) (by omega)).trans a1.1, fun j hj => (e _ _ (by omega) (by omega)).trans (a1.2 j hj)⟩, ⟨(e _ _ (by omega) (by omega)).trans a2.1, fun i hi => ⟨(e _ _ (by omega) (by omega)).trans (a2.2 i hi).1, fun j hj => (e _ _ (by omega) (by omega)).trans ((a2.2 i hi).2 j hj)⟩⟩, fun f hf => ⟨fun q => (e _ _ (by omega) (by omega)).trans ((a3 f hf).1 q), fun h9 L q => ?_⟩, fun f hf h9 L q i hi => ?_, a5⟩
  · obtain ⟨b1, b2, b3, b4, b5⟩ := (a3 f hf).2 h9 L q
    exact ⟨(e _ _ (by omega) (by omega)).trans b1, (e _ _ (by omega) (by omega)).trans b2, (e _ _ (by omega) (by omega)).trans b3, b4, fun i hi w hw => (e _ _ (by omega) (by omega)).trans (b5 i hi w hw)⟩
  · refine (a4 f hf h9 L q i hi).go (fun w hw => ?_) (Or.inl rfl)
    obtain ⟨st, r1, r2, r3, r4⟩ := hw
    exact ⟨st, (e _ _ (by omega) (by omega)).trans r1, (e _ _ (by omega) (by omega)).trans r2, r3, fun j hj => (e _ _ (by omega) (by omega)).trans (r4 j hj)⟩
set_option maxRecDepth 100000 in
theorem RV.fl (h : RV s t ns fs lt) (g : ch A s s1) (hA : ∀ a k, A a k → a = 121 ∧ k ≠ 1 ∧ k ≠ 3) : RV s1 t ns fs lt := ⟨h.1.of g (fun q => by have := hA _ _ q; omega) (fun j q => by have := hA _ _ q; omega), h.2.1.of g (fun a k q => by have := hA _ _ q; omega), h.2.2.1.of g (fun a k q => by have := hA _ _ q; omega), h.2.2.2.1.of g (fun a k q => by have := hA _ _ q; omega), h.2.2.2.2⟩
set_option maxRecDepth 100000 in
theorem RV.t0 (h : RV s t ns fs lt) (v : Int32) : RV (wI s 121 0 v) t ns fs lt ∧ ch mA s (wI s 121 0 v) := ⟨h.fl (ch0 s v) (fun a k z => by omega), (ch0 s v).mono fun a k z => by unfold mA; omega⟩
set_option maxRecDepth 100000 in
theorem okA.len {ns1 : List (List Int32)} (h : okA fs ns) (hn : ns.length ≤ ns1.length) : okA fs ns1 := fun f h9 L q => ⟨(h f h9 L q).1, fun d hd => ⟨((h f h9 L q).2 d hd).1, ((h f h9 L q).2 d hd).2.1, by have := ((h f h9 L q).2 d hd).2.2; omega⟩⟩
set_option maxRecDepth 100000 in
/-- erase -/
theorem r173 (h : RV s t ns fs lt) : ∃ s', dm173 s = some s' ∧ RV s' [] ns fs lt ∧ ch mA s s' := by
  have g : ch (fun a k => a = 121 ∧ k < 2) s (wI (wI s 121 0 0) 121 1 0) := ((ch.refl _ s).wI ⟨rfl, by omega⟩).wI ⟨rfl, by omega⟩
  refine ⟨_, rfl, ⟨⟨?_, fun j hj => absurd hj (Nat.not_lt_zero j)⟩, h.2.1.of g (fun a k q => by omega), h.2.2.1.of g (fun a k q => by omega), h.2.2.2.1.of g (fun a k q => by omega), h.2.2.2.2⟩, g.mono fun a k z => by unfold mA; omega⟩
  rw [sI_wI, if_pos ⟨rfl, rfl⟩]
  rfl
set_option maxRecDepth 100000 in
/-- a formula is no more -/
theorem r231 (h : RV s t ns fs lt) (x : Int32) : ∃ s' fs', dm231 x s = some s' ∧ RV s' t ns fs' lt ∧ ch mA s s' := by
  rcases d231 h.2.2.1 x with ⟨-, e⟩ | ⟨ho, L, e0, e⟩
  · exact ⟨_, fs, e, (h.t0 1).1, (h.t0 1).2⟩
  · obtain ⟨f1, f2⟩ := fAt_s e0
    have g : ch (fun a k => (a = 121 ∧ k = 0) ∨ (a = 125 ∧ k = x.toInt.toNat)) s (wI (wI s 121 0 0) 125 x.toInt.toNat 0) := ((ch.refl _ s).wI (Or.inl ⟨rfl, rfl⟩)).wI (Or.inr ⟨rfl, rfl⟩)
    have hfs : ∀ f v, fsDel fs x.toInt.toNat f = some v → f ≠ x.toInt.toNat ∧ fs f = some v := fun f v q => by
      unfold fsDel at q
      by_cases e : f = x.toInt.toNat
      · rw [if_pos e] at q
        cases q
      · rw [if_neg e] at q
        exact ⟨e, q⟩
    refine ⟨_, fsDel fs x.toInt.toNat, e, ⟨h.1.of g (by omega) (fun j => by omega), h.2.1.of g (fun a k q => by omega), fun f hf => ⟨fun q => ?_, fun h9 L9 q => ?_⟩, fun f hf h9 L9 q i hi => ?_, fun f hf h9 L9 q i hi => ?_, fun f h9 L9 q => ?_⟩, g.mono fun a k z => by unfold mA; omega⟩
    · by_cases e : f = x.toInt.toNat
      · rw [e, sI_wI, if_pos ⟨rfl, rfl⟩]
      · unfold fsDel at q
        rw [if_neg e] at q
        exact (g.i (by omega)).trans ((h.2.2.1 f hf).1 q)
    · obtain ⟨n1, n2⟩ := hfs f _ q
      obtain ⟨b1, b2, b3, b4, b5⟩ := (h.2.2.1 f hf).2 h9 L9 n2
      exact ⟨(g.i (by omega)).trans b1, (g.i (by omega)).trans b2, (g.i (by omega)).trans b3, b4, fun i hi w hw => (g.i (by omega)).trans (b5 i hi w hw)⟩
    · obtain ⟨n1, n2⟩ := hfs f _ q
      exact (h.2.2.2.1 f hf h9 L9 n2 i hi).go (fun w hw => hw.of g (fun a k z => by omega)) (Or.inl rfl)
    · exact h.2.2.2.2.1 f hf h9 L9 (hfs f _ q).2 i hi
    · exact h.2.2.2.2.2 f h9 L9 (hfs f _ q).2
set_option maxRecDepth 100000 in
/-- what tells of formulas changes only the flag -/
theorem r243 (h : RV s t ns fs lt) (x : Int32) : ∃ v s', dm243 x s = some (v, s') ∧ RV s' t ns fs lt ∧ ch mA s s' := by
  rcases d243 h.2.2.1 x with ⟨-, e⟩ | ⟨ho, L, -, e⟩
  · exact ⟨_, _, e, h.t0 _⟩
  · exact ⟨_, _, e, h.t0 _⟩
set_option maxRecDepth 100000 in
theorem r244 (h : RV s t ns fs lt) (x y z : Int32) : ∃ v s', dm244 x y z s = some (v, s') ∧ RV s' t ns fs lt ∧ ch mA s s' := by
  rcases d244 h.2.2.1 x y z with ⟨-, e⟩ | ⟨ho, L, -, -, ⟨-, e⟩ | ⟨-, e⟩⟩
  · exact ⟨_, _, e, h.t0 _⟩
  · exact ⟨_, _, e, h.t0 _⟩
  · exact ⟨_, _, e, h.t0 _⟩
set_option maxRecDepth 100000 in
theorem r246 (h : RV s t ns fs lt) (x y z : Int32) : ∃ v s', dm246 x y z s = some (v, s') ∧ RV s' t ns fs lt ∧ ch mA s s' := by
  rcases d246 h.2.2.1 h.2.2.2.1 x y z with ⟨-, e⟩ | ⟨ho, L, -, -, e⟩
  · exact ⟨_, _, e, h.t0 _⟩
  · exact ⟨_, _, e, h.t0 _⟩
set_option maxRecDepth 100000 in
theorem r248 (h : RV s t ns fs lt) (x y : Int32) : ∃ v s', dm248 x y s = some (v, s') ∧ RV s' t ns fs lt ∧ ch mA s s' := by
  rcases d248 h.2.2.1 h.2.2.2.1 h.2.2.2.2.1 x y with ⟨-, e⟩ | ⟨h1, L, h2, M, -, -, e⟩
  · exact ⟨_, _, e, h.t0 _⟩
  · exact ⟨_, _, e, h.t0 _⟩
set_option maxRecDepth 100000 in
theorem r249 (h : RV s t ns fs lt) (x : Int32) : ∃ v s', dm249 x s = some (v, s') ∧ RV s' t ns fs lt ∧ ch mA s s' := by
  rcases d249 h.2.1 h.2.2.1 x with ⟨-, e⟩ | ⟨-, e⟩
  · exact ⟨_, _, e, h.t0 _⟩
  · exact ⟨_, _, e, h.t0 _⟩
set_option maxRecDepth 100000 in
theorem r232 (h : RV s t ns fs lt) (hn : nsOk ns) (x k : Int32) : ∃ v s', dm232 x k s = some (v, s') ∧ RV s' t ns fs lt ∧ ch mA s s' := by
  obtain ⟨v, s', e, g⟩ := w232 h.2.1 hn h.2.2.1 h.2.2.2.1 h.2.2.2.2.2 x k
  exact ⟨v, s', e, h.fl g (fun a k z => by omega), g.mono fun a k z => by unfold mA; omega⟩
set_option maxRecDepth 100000 in
/-- read -/
theorem r184 (h : RV s t ns fs lt) (hl : t.length ≤ 256) (hok : okT t) (hn : nsOk ns) (h147 : (sT s 147).2 = 256) (h122 : (sT s 122).2 = 256) (x1 x2 : Int32) : ∃ v s' fs' lt', dm184 x1 x2 s = some (v, s') ∧ RV s' t ns fs' lt' ∧ ch mA s s' := by
  have rm : ∀ a k, rdA x1.toInt.toNat a k → (a = 121 ∧ (k = 0 ∨ 21 ≤ k)) ∨ (125 ≤ a ∧ a ≤ 147) := fun a k z => by
    unfold rdA scr at z
    omega
  rcases d184 h.1 hl hok h.2.1 hn h.2.2.1 h.2.2.2.1 h147 h122 x1 x2 with ⟨-, e⟩ | ⟨cx, ⟨p, s', -, -, e, -, e2, e3, e4⟩ | ⟨L, s', eL, eF, e8, e, -, e2, e3, e4⟩⟩
  · exact ⟨_, _, fs, lt, e, h.t0 _⟩
  · exact ⟨_, s', fs, lt, e, ⟨h.1.of e4 (fun q => by have := rm _ _ q; omega) (fun j q => by have := rm _ _ q; omega), h.2.1.of e4 (fun a k q => by have := rm _ _ q; omega), e2, e3, h.2.2.2.2⟩, e4.mono fun a k z => by have := rm _ _ z; unfold mA; omega⟩
  · have gd := mRd_gd hn hl hok eL
    refine ⟨_, s', _, _, e, ⟨h.1.of e4 (fun q => by have := rm _ _ q; omega) (fun j q => by have := rm _ _ q; omega), h.2.1.of e4 (fun a k q => by have := rm _ _ q; omega), e2, e3, fun f hf h9 L9 q i hi => ?_, fun f h9 L9 q => ?_⟩, e4.mono fun a k z => by have := rm _ _ z; unfold mA; omega⟩
    · unfold fsRd at q
      unfold ltRd
      by_cases c : f = x1.toInt.toNat
      · rw [if_pos c] at q
        rw [if_pos c]
        cases q
        rw [List.length_map] at hi
        have hm : L.getD i dN ∈ L := by
          rw [List.getD, List.getElem?_eq_getElem hi]
          exact List.getElem_mem hi
        have := gd _ hm
        exact ⟨this.2.2.2.2.1, fun y hy => by have := this.2.2.2.2.2 y hy; omega⟩
      · rw [if_neg c] at q
        rw [if_neg c]
        exact h.2.2.2.2.1 f hf h9 L9 q i hi
    · unfold fsRd at q
      by_cases c : f = x1.toInt.toNat
      · rw [if_pos c] at q
        cases q
        refine ⟨eF, fun d hd => ?_⟩
        obtain ⟨n, n1, n2⟩ := List.mem_map.mp hd
        subst n2
        have := gd n n1
        exact ⟨this.1, this.2.1, this.2.2.1⟩
      · rw [if_neg c] at q
        exact h.2.2.2.2.2 f h9 L9 q
set_option maxRecDepth 100000 in
/-- move -/
theorem r224 (h : RV s t ns fs lt) (hn : nsOk ns) (x1 x2 x3 x4 x5 : Int32) : ∃ s' fs' lt', dm224 x1 x2 x3 x4 x5 s = some s' ∧ RV s' t ns fs' lt' ∧ ch mA s s' := by
  rcases d224x h.2.1 hn h.2.2.1 h.2.2.2.1 x1 x2 x3 x4 x5 with ⟨-, e⟩ | ⟨-, -, e⟩ | ⟨cV, -, h0, L, s', e0, e, e2, e3, -, e4⟩
  · exact ⟨_, fs, lt, e, h.t0 _⟩
  · exact ⟨_, fs, lt, e, h.t0 _⟩
  · obtain ⟨f1, f2⟩ := fAt_s e0
    refine ⟨s', _, _, e, ⟨h.1.of e4 (by omega) (fun j => by omega), h.2.1.of e4 (fun a k q => by omega), e2, e3, fun f hf h9 L9 q i hi => ?_, fun f h9 L9 q => ?_⟩, e4.mono fun a k z => by unfold mA; omega⟩
    · unfold fsMove at q
      unfold ltMv
      by_cases c : f = x5.toInt.toNat
      · rw [if_pos c] at q
        rw [if_pos c]
        cases q
        rw [List.length_map] at hi
        exact h.2.2.2.2.1 _ (by omega) h0 L f2 i hi
      · rw [if_neg c] at q
        rw [if_neg c]
        exact h.2.2.2.2.1 f hf h9 L9 q i hi
    · unfold fsMove at q
      by_cases c : f = x5.toInt.toNat
      · rw [if_pos c] at q
        cases q
        obtain ⟨o1, o2⟩ := h.2.2.2.2.2 _ h0 L f2
        refine ⟨ft_map (fun d => (mv_map d).2) L 1 o1, fun d hd => ?_⟩
        obtain ⟨n, n1, n2⟩ := List.mem_map.mp hd
        subst n2
        obtain ⟨p1, p2, p3⟩ := o2 n n1
        exact ⟨mv_okd p1, ar_map p2 (mv_map n).1 (mv_map n).2, mv_s2 p3⟩
      · rw [if_neg c] at q
        exact h.2.2.2.2.2 f h9 L9 q
set_option maxRecDepth 100000 in
/-- shift -/
theorem r228 (h : RV s t ns fs lt) (hn : nsOk ns) (x y k n : Int32) : ∃ v s' fs', dm228 x y k n s = some (v, s') ∧ RV s' t ns fs' lt ∧ ch mA s s' := by
  rcases d228 h.2.1 hn h.2.2.1 x y k n with ⟨-, e⟩ | ⟨-, -, e⟩ | ⟨cx, cn, s', e, e2, -, e4⟩
  · exact ⟨_, _, fs, e, h.t0 _⟩
  · exact ⟨_, _, fs, e, h.t0 _⟩
  · have hfs : ∀ f h9 L9, fsShM x y k n (lastT y) fs f = some (h9, L9) → ∃ L, fs f = some (h9, L) ∧ L9 = L.map (shM x y k n (lastT y) h9) := fun f h9 L9 q => by
      unfold fsShM at q
      cases hq : fs f with
      | none =>
        rw [hq] at q
        cases q
      | some v =>
        obtain ⟨h0, L⟩ := v
        rw [hq] at q
        cases q
        exact ⟨L, rfl, rfl⟩
    refine ⟨_, s', _, e, ⟨h.1.of e4 (by omega) (fun j => by omega), h.2.1.of e4 (fun a k q => by omega), e2, fun f hf h9 L9 q i hi => ?_, fun f hf h9 L9 q i hi => ?_, fun f h9 L9 q => ?_⟩, e4.mono fun a k z => by unfold mA; omega⟩
    · obtain ⟨L, q1, q2⟩ := hfs f h9 L9 q
      subst q2
      have hi2 : i < L.length := by rw [List.length_map] at hi; exact hi
      rw [List.getElem_map]
      exact (h.2.2.2.1 f hf h9 L q1 i hi2).go (fun w hw => hw.of e4 (fun a k z => by omega)) (sh_map L[i]).1
    · obtain ⟨L, q1, q2⟩ := hfs f h9 L9 q
      subst q2
      rw [List.length_map] at hi
      exact h.2.2.2.2.1 f hf h9 L q1 i hi
    · obtain ⟨L, q1, q2⟩ := hfs f h9 L9 q
      subst q2
      obtain ⟨o1, o2⟩ := h.2.2.2.2.2 f h9 L q1
      refine ⟨ft_map (fun d => (sh_map d).2) L 1 o1, fun d hd => ?_⟩
      obtain ⟨m, n1, n2⟩ := List.mem_map.mp hd
      subst n2
      obtain ⟨p1, p2, p3⟩ := o2 m n1
      exact ⟨sh_ok p1 (bey_rg cn.1) cn.2, ar_map p2 (sh_map m).1 (sh_map m).2, sh_2 p3⟩
set_option maxRecDepth 100000 in
/-- drop -/
theorem r182 (h : RV s t ns fs lt) (hn : nsOk ns) (x : Int32) : (¬ (0 ≤ x.toInt ∧ x.toInt < ns.length) ∧ ∃ s', dm182 x s = some s' ∧ sI s' 121 0 = 1 ∧ RV s' t ns fs lt ∧ ch mA s s') ∨ ((0 ≤ x.toInt ∧ x.toInt < ns.length) ∧ ∃ s' fs', dm182 x s = some s' ∧ sI s' 121 0 = 0 ∧ RV s' t (ns.eraseIdx x.toInt.toNat) fs' lt ∧ ch mA s s') := by
  rcases d182 h.2.1 hn h.2.2.1 x with ⟨c, e⟩ | ⟨c, s', e, e1, e2, e3, e4⟩
  · exact Or.inl ⟨c, _, e, (by rw [sI_wI, if_pos ⟨rfl, rfl⟩]), h.t0 _⟩
  · refine Or.inr ⟨c, s', fsDropM x fs, e, e3, ?_, e4.mono fun a k z => by unfold mA; omega⟩
    have hfs : ∀ f h9 L9, fsDropM x fs f = some (h9, L9) → ∃ h0 L, fs f = some (h0, L) ∧ L9 = L.map (lsM x) := fun f h9 L9 q => by
      unfold fsDropM at q
      cases hq : fs f with
      | none =>
        rw [hq] at q
        cases q
      | some v =>
        obtain ⟨h0, L⟩ := v
        rw [hq] at q
        have q : (if h0 = x then none else some (if h0 ≤ x then h0 else h0 - 1, L.map (lsM x))) = some (h9, L9) := q
        by_cases c : h0 = x
        · rw [if_pos c] at q
          cases q
        · rw [if_neg c] at q
          cases q
          exact ⟨h0, L, rfl, rfl⟩
    refine ⟨h.1.of e4 (by omega) (fun j => by omega), e1, e2, fun f hf h9 L9 q i hi => ?_, fun f hf h9 L9 q i hi => ?_, fun f h9 L9 q => ?_⟩
    · obtain ⟨h0, L, q1, q2⟩ := hfs f h9 L9 q
      subst q2
      have hi2 : i < L.length := by rw [List.length_map] at hi; exact hi
      rw [List.getElem_map]
      exact (h.2.2.2.1 f hf h0 L q1 i hi2).go (fun w hw => hw.of e4 (fun a k z => by omega)) (ls_map c.1 ((h.2.2.2.2.2 f h0 L q1).2 L[i] (List.getElem_mem hi2)).1).1
    · obtain ⟨h0, L, q1, q2⟩ := hfs f h9 L9 q
      subst q2
      rw [List.length_map] at hi
      exact h.2.2.2.2.1 f hf h0 L q1 i hi
    · obtain ⟨h0, L, q1, q2⟩ := hfs f h9 L9 q
      subst q2
      obtain ⟨o1, o2⟩ := h.2.2.2.2.2 f h0 L q1
      refine ⟨?_, fun d hd => ?_⟩
      · have key : ∀ (M : List Nd) (k : Nat), (∀ d ∈ M, ndOk d) → ft M k → ft (M.map (lsM x)) k := by
          intro M
          induction M with
          | nil => exact fun k _ z => z
          | cons d M ih =>
            intro k hM hz
            obtain ⟨z1, z2⟩ := hz
            have e : arN (lsM x d) = arN d := by unfold arN; rw [(ls_map c.1 (hM d List.mem_cons_self)).2]
            refine ⟨z1, ?_⟩
            rw [e]
            exact ih _ (fun d hd => hM d (List.mem_cons_of_mem _ hd)) z2
        exact key L 1 (fun d hd => (o2 d hd).1) o1
      · obtain ⟨m, n1, n2⟩ := List.mem_map.mp hd
        subst n2
        obtain ⟨p1, p2, p3⟩ := o2 m n1
        refine ⟨by rw [ls_eq c.1 p1]; exact ls_ok c.1 p1, ar_map p2 (ls_map c.1 p1).1 (ls_map c.1 p1).2, ?_⟩
        have := ls_2 c p1 p3
        rw [List.length_eraseIdx_of_lt (by omega)]
        omega
end RVs
end
section
/-! both sides together: steps of the law -/
def SS (tt : Nat) (xs : List Int32) (s : aS) (t : List Int32) (ns : List (List Int32)) (fs : Nat → Option Fm) (lt : Nat → Nat → List Int32) : Prop := Ly tt (cCc xs) s ∧ CV s t ns ∧ RV s t ns fs lt
set_option maxRecDepth 100000 in
theorem zG1_n {a : Nat} (h1 : 121 ≤ a) (h2 : a ≤ 147) : zG 1 a = false := by
  show (decide (a < 121) || decide (148 ≤ a)) = false
  rw [decide_eq_false (by omega), decide_eq_false (by omega)]
  rfl
section SSs
variable {tt : Nat} {xs : List Int32} {s s1 : aS} {t : List Int32} {ns : List (List Int32)} {fs : Nat → Option Fm} {lt : Nat → Nat → List Int32}
set_option maxRecDepth 100000 in
theorem RV.ex (h : RV s t ns fs lt) (hl : Ly tt (cCc xs) s) (e : ext (zG 1) s s1) : RV s1 t ns fs lt := h.same fun a k h1 h2 => (e.2.2.1 a (by have : 149 ≤ sL s := hl.1; omega) (zG1_n h1 h2)).1 k
set_option maxRecDepth 100000 in
theorem CV.j {k : Nat} {v : Int64} (h : CV s t ns) : CV (wJ s 148 k v) t ns := by
  obtain ⟨⟨a1, a2⟩, ⟨b1, b2⟩, c1, d1, e1⟩ := h
  exact ⟨⟨a1, a2⟩, ⟨b1, b2⟩, c1, d1, e1⟩
set_option maxRecDepth 100000 in
theorem CV.m (h : CV s t ns) (hl : Ly tt (cCc xs) s) (g : ch mA s s1) : CV s1 t ns := h.of hl g (fun a k z => by unfold mA at z; omega)
set_option maxRecDepth 100000 in
theorem gw.j {k : Nat} {v : Int64} (h : gw s s1) : gw s (wJ s1 148 k v) := h
set_option maxRecDepth 100000 in
theorem a01 : aB 0 1 := aB_iff.mpr ⟨by decide, by decide⟩
set_option maxRecDepth 100000 in
/-- wrappers -/
theorem wrI {D : Option (xZ × aS)} (h : Cm s t ns pI D) : ∃ k s1, (bv D fun z4 s3 => zN z4 (fun v5 => vI v5 fun r7 => if aB 0 1 then nx (wJ s3 148 (jN 0) r7.toInt64) fun s10 => some (((0 : Int32), s10)) else none) fun e6 => if e6 = 2 then some (1, s3) else none) = some (k, s1) ∧ CV s1 t ns ∧ gw s s1 := by
  obtain ⟨o, s1, e, hp, hv, hg⟩ := h
  rw [e]
  simp only [bv_some]
  rcases hp with ⟨v, rfl⟩ | rfl
  · rw [zN_l, vI_int, if_pos a01, nx_eq]
    exact ⟨_, _, rfl, hv.j, hg.j⟩
  · rw [zN_r, if_pos rfl]
    exact ⟨_, _, rfl, hv, hg⟩
set_option maxRecDepth 100000 in
theorem wrJ {D : Option (xZ × aS)} (h : Cm s t ns pJ D) : ∃ k s1, (bv D fun z4 s3 => zN z4 (fun v5 => vI v5 fun r7 => if aB 0 1 then nx (wJ s3 148 (jN 0) r7.toInt64) fun s10 => some (((0 : Int32), s10)) else none) fun e6 => if e6 = 2 then some (1, s3) else if e6 = 0 then some (2, s3) else none) = some (k, s1) ∧ CV s1 t ns ∧ gw s s1 := by
  obtain ⟨o, s1, e, hp, hv, hg⟩ := h
  rw [e]
  simp only [bv_some]
  rcases hp with ⟨v, rfl⟩ | rfl | rfl
  · rw [zN_l, vI_int, if_pos a01, nx_eq]
    exact ⟨_, _, rfl, hv.j, hg.j⟩
  · rw [zN_r, if_pos rfl]
    exact ⟨_, _, rfl, hv, hg⟩
  · rw [zN_r, if_neg (by decide), if_pos rfl]
    exact ⟨_, _, rfl, hv, hg⟩
set_option maxRecDepth 100000 in
theorem wrT {D : Option (xZ × aS)} (h : Cm s t ns pC D) : ∃ k s1, (bv D fun z4 s3 => zN z4 (fun v5 => vI v5 fun r7 => if aB 0 1 then nx (wJ s3 148 (jN 0) r7.toInt64) fun s10 => some (((0 : Int32), s10)) else none) fun e6 => if e6 = 0 then some (1, s3) else none) = some (k, s1) ∧ CV s1 t ns ∧ gw s s1 := by
  obtain ⟨o, s1, e, hp, hv, hg⟩ := h
  rw [e]
  simp only [bv_some]
  rcases hp with ⟨v, rfl⟩ | rfl
  · rw [zN_l, vI_int, if_pos a01, nx_eq]
    exact ⟨_, _, rfl, hv.j, hg.j⟩
  · rw [zN_r, if_pos rfl]
    exact ⟨_, _, rfl, hv, hg⟩
set_option maxRecDepth 100000 in
theorem wrS {D : Option (xZ × aS)} (h : Cm s t ns pI D) : ∃ k s1, (bv D fun z4 s3 => zN z4 (fun v5 => vI v5 fun r7 => if r7 = 0 then dm13_10 0 0 s3 else dm13_10 0 1 s3) fun e6 => if e6 = 2 then some (1, s3) else none) = some (k, s1) ∧ CV s1 t ns ∧ gw s s1 := by
  obtain ⟨o, s1, e, hp, hv, hg⟩ := h
  rw [e]
  simp only [bv_some]
  rcases hp with ⟨v, rfl⟩ | rfl
  · rw [zN_l, vI_int]
    unfold dm13_10
    rw [if_pos a01, if_pos a01]
    simp only [nx_eq]
    split
    · exact ⟨_, _, rfl, hv.j, hg.j⟩
    · exact ⟨_, _, rfl, hv.j, hg.j⟩
  · rw [zN_r, if_pos rfl]
    exact ⟨_, _, rfl, hv, hg⟩
set_option maxRecDepth 100000 in
theorem wrN {D : Option (xZ × aS)} (h : Cm s t ns pN D) : ∃ k s1, (bv D fun z4 s3 => zN z4 (fun v5 => vV v5 <| some (((0 : Int32), s3))) fun e6 => if e6 = 2 then some (1, s3) else none) = some (k, s1) ∧ CV s1 t ns ∧ gw s s1 := by
  obtain ⟨o, s1, e, hp, hv, hg⟩ := h
  rw [e]
  simp only [bv_some]
  rcases hp with rfl | rfl
  · rw [zN_l, vV_none]
    exact ⟨_, _, rfl, hv, hg⟩
  · rw [zN_r, if_pos rfl]
    exact ⟨_, _, rfl, hv, hg⟩
set_option maxRecDepth 100000 in
theorem wrM {D : Option (xZ × aS)} (h : Cm s t ns pM D) : ∃ k s1, (bv D fun z4 s3 => zN z4 (fun v5 => vV v5 <| some (((0 : Int32), s3))) fun e6 => if e6 = 2 then some (1, s3) else if e6 = 0 then some (2, s3) else none) = some (k, s1) ∧ CV s1 t ns ∧ gw s s1 := by
  obtain ⟨o, s1, e, hp, hv, hg⟩ := h
  rw [e]
  simp only [bv_some]
  rcases hp with rfl | rfl | rfl
  · rw [zN_l, vV_none]
    exact ⟨_, _, rfl, hv, hg⟩
  · rw [zN_r, if_pos rfl]
    exact ⟨_, _, rfl, hv, hg⟩
  · rw [zN_r, if_neg (by decide), if_pos rfl]
    exact ⟨_, _, rfl, hv, hg⟩
set_option maxRecDepth 100000 in
/-- a call of FormulaTrees, then the reference's -/
theorem kc5 (h : SS tt xs s t ns fs lt) (x1 x2 : Int32) : ∃ k s1, dm5 x1 x2 s = some (k, s1) ∧ SS tt xs s1 t ns fs lt ∧ gw s s1 := by
  obtain ⟨k, s1, e, hv, hg⟩ := wrI (y62 h.2.1 h.1 x1 x2)
  have e : dm5 x1 x2 s = some (k, s1) := e
  have q := dt5 (sio := true) (d := 2000) (by decide) h.1 e
  exact ⟨k, s1, e, ⟨q.1, hv, h.2.2.ex h.1 q.2.1⟩, hg⟩
set_option maxRecDepth 100000 in
theorem kc6 (h : SS tt xs s t ns fs lt) (x1 x2 x3 x4 x5 : Int32) : ∃ k s1, dm6 x1 x2 x3 x4 x5 s = some (k, s1) ∧ SS tt xs s1 t ns fs lt ∧ gw s s1 := by
  obtain ⟨k, s1, e, hv, hg⟩ := wrM (y125 h.2.1 h.1 x1 x2 x3 x4 x5)
  have e : dm6 x1 x2 x3 x4 x5 s = some (k, s1) := e
  have q := dt6 (sio := true) (d := 2000) (by decide) h.1 e
  exact ⟨k, s1, e, ⟨q.1, hv, h.2.2.ex h.1 q.2.1⟩, hg⟩
set_option maxRecDepth 100000 in
theorem kc7 (h : SS tt xs s t ns fs lt) (x1 x2 x3 x4 : Int32) : ∃ k s1, dm7 x1 x2 x3 x4 s = some (k, s1) ∧ SS tt xs s1 t ns fs lt ∧ gw s s1 := by
  obtain ⟨k, s1, e, hv, hg⟩ := wrJ (y133 h.2.1 h.1 x1 x2 x3 x4)
  have e : dm7 x1 x2 x3 x4 s = some (k, s1) := e
  have q := dt7 (sio := true) (d := 2000) (by decide) h.1 e
  exact ⟨k, s1, e, ⟨q.1, hv, h.2.2.ex h.1 q.2.1⟩, hg⟩
set_option maxRecDepth 100000 in
theorem kc8 (h : SS tt xs s t ns fs lt) (x1 : Int32) : ∃ k s1, dm8 x1 s = some (k, s1) ∧ SS tt xs s1 t ns fs lt ∧ gw s s1 := by
  obtain ⟨k, s1, e, hv, hg⟩ := wrN (y137 h.2.1 h.1 x1)
  have e : dm8 x1 s = some (k, s1) := e
  have q := dt8 (sio := true) (d := 2000) (by decide) h.1 e
  exact ⟨k, s1, e, ⟨q.1, hv, h.2.2.ex h.1 q.2.1⟩, hg⟩
set_option maxRecDepth 100000 in
theorem kc9 (h : SS tt xs s t ns fs lt) (x1 x2 : Int32) : ∃ k s1, dm9 x1 x2 s = some (k, s1) ∧ SS tt xs s1 t ns fs lt ∧ gw s s1 := by
  obtain ⟨k, s1, e, hv, hg⟩ := wrI (y138 h.2.1 h.1 x1 x2)
  have e : dm9 x1 x2 s = some (k, s1) := e
  have q := dt9 (sio := true) (d := 2000) (by decide) h.1 e
  exact ⟨k, s1, e, ⟨q.1, hv, h.2.2.ex h.1 q.2.1⟩, hg⟩
set_option maxRecDepth 100000 in
theorem kc10 (h : SS tt xs s t ns fs lt) (x1 : Int32) : ∃ k s1, dm10 x1 s = some (k, s1) ∧ SS tt xs s1 t ns fs lt ∧ gw s s1 := by
  obtain ⟨k, s1, e, hv, hg⟩ := wrI (y159 h.2.1 h.1 x1)
  have e : dm10 x1 s = some (k, s1) := e
  have q := dt10 (sio := true) (d := 2000) (by decide) h.1 e
  exact ⟨k, s1, e, ⟨q.1, hv, h.2.2.ex h.1 q.2.1⟩, hg⟩
set_option maxRecDepth 100000 in
theorem kc11 (h : SS tt xs s t ns fs lt) (x1 x2 x3 : Int32) : ∃ k s1, dm11 x1 x2 x3 s = some (k, s1) ∧ SS tt xs s1 t ns fs lt ∧ gw s s1 := by
  obtain ⟨k, s1, e, hv, hg⟩ := wrJ (y160 h.2.1 h.1 x1 x2 x3)
  have e : dm11 x1 x2 x3 s = some (k, s1) := e
  have q := dt11 (sio := true) (d := 2000) (by decide) h.1 e
  exact ⟨k, s1, e, ⟨q.1, hv, h.2.2.ex h.1 q.2.1⟩, hg⟩
set_option maxRecDepth 100000 in
theorem kc12 (h : SS tt xs s t ns fs lt) (x1 x2 x3 : Int32) : ∃ k s1, dm12 x1 x2 x3 s = some (k, s1) ∧ SS tt xs s1 t ns fs lt ∧ gw s s1 := by
  obtain ⟨k, s1, e, hv, hg⟩ := wrI (y162 h.2.1 h.1 x1 x2 x3)
  have e : dm12 x1 x2 x3 s = some (k, s1) := e
  have q := dt12 (sio := true) (d := 2000) (by decide) h.1 e
  exact ⟨k, s1, e, ⟨q.1, hv, h.2.2.ex h.1 q.2.1⟩, hg⟩
set_option maxRecDepth 100000 in
theorem kc13 (h : SS tt xs s t ns fs lt) (x1 x2 : Int32) : ∃ k s1, dm13 x1 x2 s = some (k, s1) ∧ SS tt xs s1 t ns fs lt ∧ gw s s1 := by
  obtain ⟨k, s1, e, hv, hg⟩ := wrS (y163 h.2.1 h.1 x1 x2)
  have e : dm13 x1 x2 s = some (k, s1) := e
  have q := dt13 (sio := true) (d := 2000) (by decide) h.1 e
  exact ⟨k, s1, e, ⟨q.1, hv, h.2.2.ex h.1 q.2.1⟩, hg⟩
set_option maxRecDepth 100000 in
theorem kc14 (h : SS tt xs s t ns fs lt) (x1 : Int32) : ∃ k s1, dm14 x1 s = some (k, s1) ∧ SS tt xs s1 t ns fs lt ∧ gw s s1 := by
  obtain ⟨k, s1, e, hv, hg⟩ := wrT (y166 h.2.1 h.1 x1)
  have e : dm14 x1 s = some (k, s1) := e
  have q := dt14 (sio := true) (d := 2000) (by decide) h.1 e
  exact ⟨k, s1, e, ⟨q.1, hv, h.2.2.ex h.1 q.2.1⟩, hg⟩
set_option maxRecDepth 100000 in
/-- the reference's -/
theorem ms184 (h : SS tt xs s t ns fs lt) (x1 x2 : Int32) : ∃ v s1 fs1 lt1, dm184 x1 x2 s = some (v, s1) ∧ SS tt xs s1 t ns fs1 lt1 ∧ ch mA s s1 := by
  obtain ⟨v, s1, fs1, lt1, e, hr, g⟩ := r184 h.2.2 h.2.1.1.2.1 h.2.1.1.2.2 h.2.1.2.1.2 (by rw [h.1.T (a := 147) (p := (100, 256)) 69 rfl rfl]) (by rw [h.1.T (a := 122) (p := (100, 256)) 44 rfl rfl]) x1 x2
  have q := dt184 (sio := true) (d := 2000) (by decide) h.1 e
  exact ⟨v, s1, fs1, lt1, e, ⟨q.1, h.2.1.m h.1 g, hr⟩, g⟩
set_option maxRecDepth 100000 in
theorem ms224 (h : SS tt xs s t ns fs lt) (x1 x2 x3 x4 x5 : Int32) : ∃ s1 fs1 lt1, dm224 x1 x2 x3 x4 x5 s = some s1 ∧ SS tt xs s1 t ns fs1 lt1 ∧ ch mA s s1 := by
  obtain ⟨s1, fs1, lt1, e, hr, g⟩ := r224 h.2.2 h.2.1.2.1.2 x1 x2 x3 x4 x5
  have q := dt224 (sio := true) (d := 2000) (by decide) h.1 e
  exact ⟨s1, fs1, lt1, e, ⟨q.1, h.2.1.m h.1 g, hr⟩, g⟩
set_option maxRecDepth 100000 in
theorem ms228 (h : SS tt xs s t ns fs lt) (x1 x2 x3 x4 : Int32) : ∃ v s1 fs1, dm228 x1 x2 x3 x4 s = some (v, s1) ∧ SS tt xs s1 t ns fs1 lt ∧ ch mA s s1 := by
  obtain ⟨v, s1, fs1, e, hr, g⟩ := r228 h.2.2 h.2.1.2.1.2 x1 x2 x3 x4
  have q := dt228 (sio := true) (d := 2000) (by decide) h.1 e
  exact ⟨v, s1, fs1, e, ⟨q.1, h.2.1.m h.1 g, hr⟩, g⟩
set_option maxRecDepth 100000 in
theorem ms231 (h : SS tt xs s t ns fs lt) (x1 : Int32) : ∃ s1 fs1, dm231 x1 s = some s1 ∧ SS tt xs s1 t ns fs1 lt ∧ ch mA s s1 := by
  obtain ⟨s1, fs1, e, hr, g⟩ := r231 h.2.2 x1
  have q := dt231 (sio := true) (d := 2000) (by decide) h.1 e
  exact ⟨s1, fs1, e, ⟨q.1, h.2.1.m h.1 g, hr⟩, g⟩
set_option maxRecDepth 100000 in
theorem ms232 (h : SS tt xs s t ns fs lt) (x1 x2 : Int32) : ∃ v s1, dm232 x1 x2 s = some (v, s1) ∧ SS tt xs s1 t ns fs lt ∧ ch mA s s1 := by
  obtain ⟨v, s1, e, hr, g⟩ := r232 h.2.2 h.2.1.2.1.2 x1 x2
  have q := dt232 (sio := true) (d := 2000) (by decide) h.1 e
  exact ⟨v, s1, e, ⟨q.1, h.2.1.m h.1 g, hr⟩, g⟩
set_option maxRecDepth 100000 in
theorem ms243 (h : SS tt xs s t ns fs lt) (x1 : Int32) : ∃ v s1, dm243 x1 s = some (v, s1) ∧ SS tt xs s1 t ns fs lt ∧ ch mA s s1 := by
  obtain ⟨v, s1, e, hr, g⟩ := r243 h.2.2 x1
  have q := dt243 (sio := true) (d := 2000) (by decide) h.1 e
  exact ⟨v, s1, e, ⟨q.1, h.2.1.m h.1 g, hr⟩, g⟩
set_option maxRecDepth 100000 in
theorem ms244 (h : SS tt xs s t ns fs lt) (x1 x2 x3 : Int32) : ∃ v s1, dm244 x1 x2 x3 s = some (v, s1) ∧ SS tt xs s1 t ns fs lt ∧ ch mA s s1 := by
  obtain ⟨v, s1, e, hr, g⟩ := r244 h.2.2 x1 x2 x3
  have q := dt244 (sio := true) (d := 2000) (by decide) h.1 e
  exact ⟨v, s1, e, ⟨q.1, h.2.1.m h.1 g, hr⟩, g⟩
set_option maxRecDepth 100000 in
theorem ms246 (h : SS tt xs s t ns fs lt) (x1 x2 x3 : Int32) : ∃ v s1, dm246 x1 x2 x3 s = some (v, s1) ∧ SS tt xs s1 t ns fs lt ∧ ch mA s s1 := by
  obtain ⟨v, s1, e, hr, g⟩ := r246 h.2.2 x1 x2 x3
  have q := dt246 (sio := true) (d := 2000) (by decide) h.1 e
  exact ⟨v, s1, e, ⟨q.1, h.2.1.m h.1 g, hr⟩, g⟩
set_option maxRecDepth 100000 in
theorem ms248 (h : SS tt xs s t ns fs lt) (x1 x2 : Int32) : ∃ v s1, dm248 x1 x2 s = some (v, s1) ∧ SS tt xs s1 t ns fs lt ∧ ch mA s s1 := by
  obtain ⟨v, s1, e, hr, g⟩ := r248 h.2.2 x1 x2
  have q := dt248 (sio := true) (d := 2000) (by decide) h.1 e
  exact ⟨v, s1, e, ⟨q.1, h.2.1.m h.1 g, hr⟩, g⟩
set_option maxRecDepth 100000 in
theorem ms249 (h : SS tt xs s t ns fs lt) (x1 : Int32) : ∃ v s1, dm249 x1 s = some (v, s1) ∧ SS tt xs s1 t ns fs lt ∧ ch mA s s1 := by
  obtain ⟨v, s1, e, hr, g⟩ := r249 h.2.2 x1
  have q := dt249 (sio := true) (d := 2000) (by decide) h.1 e
  exact ⟨v, s1, e, ⟨q.1, h.2.1.m h.1 g, hr⟩, g⟩
end SSs
end
section
/-! calls that change text and names, and name: both answer the same -/
section SSs
variable {tt : Nat} {xs : List Int32} {s s1 : aS} {t : List Int32} {ns : List (List Int32)} {fs : Nat → Option Fm} {lt : Nat → Nat → List Int32}
set_option maxRecDepth 100000 in
theorem okT_ap {t u : List Int32} (h : okT t) (g : okT u) : okT (t ++ u) := fun x hx => (List.mem_append.mp hx).elim (h x) (g x)
set_option maxRecDepth 100000 in
/-- both sides are done: the new state -/
theorem SS.on {t1 : List Int32} {ns1 : List (List Int32)} {s2 : aS} (l2 : Ly tt (cCc xs) s2) (l1 : Ly tt (cCc xs) s1) (hv : CV s1 t1 ns1) (g : ch mA s1 s2) (hr : RV s2 t1 ns1 fs lt) : SS tt xs s2 t1 ns1 fs lt := ⟨l2, hv.m l1 g, hr⟩
set_option maxRecDepth 100000 in
theorem jj {k : Nat} {A : Nat → Nat → Prop} {s2 : aS} (g : ch A s1 s2) (h : ¬ A 148 k) : sJ s2 148 k = sJ s1 148 k := (g.2.2 148 k h).2.2
set_option maxRecDepth 100000 in
theorem q_type (h : SS tt xs s t ns fs lt) (x : Int32) : ∃ k s1 b s2 t1, dm1 x s = some (k, s1) ∧ Ly tt (cCc xs) s1 ∧ dm172 x s1 = some (b, s2) ∧ sI s2 121 0 = k ∧ (k = 0 → sJ s2 148 0 = b.toInt64) ∧ SS tt xs s2 t1 ns fs lt ∧ gw s s2 := by
  obtain ⟨hl, hv, hr⟩ := h
  have T80 : (sT s 80).2 = 256 := (RC.ly hl).1
  have fin : ∀ k s1, dm1 x s = some (k, s1) → Ly tt (cCc xs) s1 ∧ RV s1 t ns fs lt := fun k s1 e => by
    have q := dt1 (sio := true) (d := 2000) (by decide) hl e
    exact ⟨q.1, hr.ex hl q.2.1⟩
  rcases t27 (x := x) hv.1.1 T80 hv.1.2.1 with ⟨c, e⟩ | ⟨c, c2, e⟩ | ⟨c, c2, s1, e, e1, e2⟩
  · have e1 : dm1 x s = some (1, nw s 80 0) := by
      unfold dm1
      rw [e]
      rfl
    obtain ⟨l1, v1⟩ := fin _ _ e1
    rcases t172 (x := x) v1.1 hv.1.2.1 with ⟨d, f⟩ | ⟨d, -⟩ | ⟨d, -⟩
    · have q := dt172 (sio := true) (d := 2000) (by decide) l1 f
      exact ⟨_, _, _, _, t, e1, l1, f, by rw [sI_wI, if_pos ⟨rfl, rfl⟩], fun z => absurd z (by decide), SS.on q.1 l1 (hv.thr hl (by decide)) (v1.t0 1).2 (v1.t0 1).1, (gw_nw s).tr (v1.t0 1).2⟩
    · exact absurd d c
    · exact absurd d c
  · have e1 : dm1 x s = some (2, nw s 81 0) := by
      unfold dm1
      rw [e]
      rfl
    obtain ⟨l1, v1⟩ := fin _ _ e1
    rcases t172 (x := x) v1.1 hv.1.2.1 with ⟨d, f⟩ | ⟨d, -, f⟩ | ⟨d, d2, -⟩
    · exact absurd c d
    · have q := dt172 (sio := true) (d := 2000) (by decide) l1 f
      exact ⟨_, _, _, _, t, e1, l1, f, by rw [sI_wI, if_pos ⟨rfl, rfl⟩], fun z => absurd z (by decide), SS.on q.1 l1 (hv.thr hl (by decide)) (v1.t0 2).2 (v1.t0 2).1, (gw_nw s).tr (v1.t0 2).2⟩
    · omega
  · have e3 : dm1 x s = some (0, wJ s1 148 (jN 0) (Int32.ofNat (t ++ nzF x 4 0).length).toInt64) := by
      unfold dm1
      rw [e]
      simp only [bv_some]
      rw [zN_l, vI_int, if_pos a01, nx_eq]
    obtain ⟨l1, v1⟩ := fin _ _ e3
    have hlen : (t ++ nzF x 4 0).length ≤ 256 := by rw [List.length_append, nzF_len]; exact c2
    have hok : okT (t ++ nzF x 4 0) := okT_ap hv.1.2.2 (nzF_ok x 4 0 c)
    have w1 : CV (wJ s1 148 (jN 0) (Int32.ofNat (t ++ nzF x 4 0).length).toInt64) (t ++ nzF x 4 0) ns := (hv.tx hl (e2.mono fun a k z => by omega) e1 ⟨hlen, hok⟩).j
    rcases t172 (x := x) v1.1 hv.1.2.1 with ⟨d, -⟩ | ⟨d, d2, -⟩ | ⟨d, d2, s2, f, f1, f2, f3⟩
    · exact absurd c d
    · omega
    · have q := dt172 (sio := true) (d := 2000) (by decide) l1 f
      have g : ch mA (wJ s1 148 (jN 0) (Int32.ofNat (t ++ nzF x 4 0).length).toInt64) s2 := f3.mono fun a k z => by unfold mA; omega
      refine ⟨_, _, _, s2, t ++ nzF x 4 0, e3, l1, f, f2, fun _ => ?_, SS.on q.1 l1 w1 g ⟨f1, v1.2.1.of f3 (fun a k z => by omega), v1.2.2.1.of f3 (fun a k z => by omega), v1.2.2.2.1.of f3 (fun a k z => by omega), v1.2.2.2.2⟩, ?_⟩
      · rw [jj f3 (by omega), sJ_wJ, if_pos ⟨rfl, rfl⟩]
      · exact ((gw_ch e2).j (k := jN 0) (v := (Int32.ofNat (t ++ nzF x 4 0).length).toInt64)).tr f3
set_option maxRecDepth 100000 in
theorem q_erase (h : SS tt xs s t ns fs lt) : ∃ s1 s2, dm25 s = some s1 ∧ dm173 s1 = some s2 ∧ SS tt xs s2 [] ns fs lt ∧ gw s s2 := by
  obtain ⟨hl, hv, hr⟩ := h
  have e : dm25 s = some (wI s 79 1 0) := rfl
  have g1 : ch (fun a _ => a = 79 ∨ a = 80) s (wI s 79 1 0) := (ch.refl _ s).wI (Or.inl rfl)
  have q := dt25 (sio := true) (d := 2000) (by decide) hl e
  have w1 : CV (wI s 79 1 0) [] ns := hv.tx hl g1 ⟨by rw [sI_wI, if_pos ⟨rfl, rfl⟩]; rfl, fun j hj => absurd hj (Nat.not_lt_zero j)⟩ ⟨Nat.zero_le _, fun y hy => (by cases hy)⟩
  obtain ⟨s2, f, f1, f2⟩ := r173 (hr.ex hl q.2.1)
  have q2 := dt173 (sio := true) (d := 2000) (by decide) q.1 f
  exact ⟨_, s2, e, f, SS.on q2.1 q.1 w1 f2 f1, (gw_ch g1).tr f2⟩
set_option maxRecDepth 100000 in
theorem ok_ap (h : nsOk ns) (h8 : ns.length < 8) (ht : nmP t) (ho : okT t) : nsOk (ns ++ [t]) := by
  refine ⟨by rw [List.length_append]; show ns.length + 1 ≤ 8; omega, fun n hn => ?_⟩
  rcases List.mem_append.mp hn with z | z
  · exact h.2 n z
  · rw [List.mem_singleton.mp z]
    exact ⟨ht.1, ht.2.1, ho⟩
set_option maxRecDepth 100000 in
theorem q_sheet (h : SS tt xs s t ns fs lt) : ∃ k s1 b s2 ns1, dm2 s = some (k, s1) ∧ Ly tt (cCc xs) s1 ∧ dm174 s1 = some (b, s2) ∧ sI s2 121 0 = k ∧ (k = 0 → sJ s2 148 0 = b.toInt64) ∧ SS tt xs s2 t ns1 fs lt ∧ gw s s2 := by
  obtain ⟨hl, hv, hr⟩ := h
  have fin : ∀ k s1, dm2 s = some (k, s1) → Ly tt (cCc xs) s1 ∧ RV s1 t ns fs lt := fun k s1 e => by
    have q := dt2 (sio := true) (d := 2000) (by decide) hl e
    exact ⟨q.1, hr.ex hl q.2.1⟩
  have T122 : ∀ s1, Ly tt (cCc xs) s1 → (sT s1 122).2 = 256 := fun s1 l1 => by rw [l1.T (a := 122) (p := (100, 256)) 44 rfl rfl]
  rcases d30 hv.2.1.1 (RC.ly hl) hv.2.1.2 (FB.ly hl) (TF.ly hl) hv.1.1 hv.1.2.1 hv.1.2.2 with ⟨c, e⟩ | ⟨c, c2, e⟩ | ⟨c, c2, s1, e, e1, e2⟩
  · have e1 : dm2 s = some (1, nw s 80 0) := by
      unfold dm2
      rw [e]
      rfl
    obtain ⟨l1, v1⟩ := fin _ _ e1
    rcases d174 v1.2.1 hv.2.1.2 v1.1 hv.1.2.1 (T122 _ l1) with ⟨d, f⟩ | ⟨d, -⟩ | ⟨d, -⟩
    · have q := dt174 (sio := true) (d := 2000) (by decide) l1 f
      exact ⟨_, _, _, _, ns, e1, l1, f, by rw [sI_wI, if_pos ⟨rfl, rfl⟩], fun z => absurd z (by decide), SS.on q.1 l1 (hv.thr hl (by decide)) (v1.t0 1).2 (v1.t0 1).1, (gw_nw s).tr (v1.t0 1).2⟩
    · exact absurd d c
    · exact absurd d c
  · have e1 : dm2 s = some (2, nw s 81 0) := by
      unfold dm2
      rw [e]
      rfl
    obtain ⟨l1, v1⟩ := fin _ _ e1
    rcases d174 v1.2.1 hv.2.1.2 v1.1 hv.1.2.1 (T122 _ l1) with ⟨d, f⟩ | ⟨d, -, f⟩ | ⟨d, d2, -⟩
    · exact absurd c d
    · have q := dt174 (sio := true) (d := 2000) (by decide) l1 f
      exact ⟨_, _, _, _, ns, e1, l1, f, by rw [sI_wI, if_pos ⟨rfl, rfl⟩], fun z => absurd z (by decide), SS.on q.1 l1 (hv.thr hl (by decide)) (v1.t0 2).2 (v1.t0 2).1, (gw_nw s).tr (v1.t0 2).2⟩
    · omega
  · have e3 : dm2 s = some (0, wJ s1 148 (jN 0) (Int32.ofNat ns.length).toInt64) := by
      unfold dm2
      rw [e]
      simp only [bv_some]
      rw [zN_l, vI_int, if_pos a01, nx_eq]
    obtain ⟨l1, v1⟩ := fin _ _ e3
    have w1 : CV (wJ s1 148 (jN 0) (Int32.ofNat ns.length).toInt64) t (ns ++ [t]) := (hv.nm hl e2 e1 (ok_ap hv.2.1.2 c2 c.1 hv.1.2.2)).j
    rcases d174 v1.2.1 hv.2.1.2 v1.1 hv.1.2.1 (T122 _ l1) with ⟨d, -⟩ | ⟨d, d2, -⟩ | ⟨d, d2, s2, f, f1, f2, f3⟩
    · exact absurd c d
    · omega
    · have q := dt174 (sio := true) (d := 2000) (by decide) l1 f
      have g : ch mA (wJ s1 148 (jN 0) (Int32.ofNat ns.length).toInt64) s2 := f3.mono fun a k z => by unfold mA; omega
      refine ⟨_, _, _, s2, ns ++ [t], e3, l1, f, f2, fun _ => ?_, SS.on q.1 l1 w1 g ⟨v1.1.of f3 (by omega) (fun j => by omega), f1, v1.2.2.1.of f3 (fun a k z => by omega), v1.2.2.2.1.of f3 (fun a k z => by omega), v1.2.2.2.2.1, v1.2.2.2.2.2.len (by rw [List.length_append]; omega)⟩, ?_⟩
      · rw [jj f3 (by omega), sJ_wJ, if_pos ⟨rfl, rfl⟩]
      · exact ((gw_ch e2).j (k := jN 0) (v := (Int32.ofNat ns.length).toInt64)).tr f3
set_option maxRecDepth 100000 in
theorem ok_set {i : Nat} (h : nsOk ns) (ht : nmP t) (ho : okT t) : nsOk (ns.set i t) := by
  refine ⟨by rw [List.length_set]; exact h.1, fun n hn => ?_⟩
  rcases List.mem_or_eq_of_mem_set hn with z | z
  · exact h.2 n z
  · rw [z]
    exact ⟨ht.1, ht.2.1, ho⟩
set_option maxRecDepth 100000 in
theorem q_rename (h : SS tt xs s t ns fs lt) (x : Int32) : ∃ k s1 s2 ns1, dm3 x s = some (k, s1) ∧ Ly tt (cCc xs) s1 ∧ dm180 x s1 = some s2 ∧ sI s2 121 0 = k ∧ SS tt xs s2 t ns1 fs lt ∧ gw s s2 := by
  obtain ⟨hl, hv, hr⟩ := h
  have fin : ∀ k s1, dm3 x s = some (k, s1) → Ly tt (cCc xs) s1 ∧ RV s1 t ns fs lt := fun k s1 e => by
    have q := dt3 (sio := true) (d := 2000) (by decide) hl e
    exact ⟨q.1, hr.ex hl q.2.1⟩
  have T122 : ∀ s1, Ly tt (cCc xs) s1 → (sT s1 122).2 = 256 := fun s1 l1 => by rw [l1.T (a := 122) (p := (100, 256)) 44 rfl rfl]
  rcases d51 hv.2.1.1 (RC.ly hl) hv.2.1.2 (FB.ly hl) (TF.ly hl) hv.1.1 hv.1.2.1 hv.1.2.2 x with ⟨c, e⟩ | ⟨c, c2, e⟩ | ⟨c, c2, s1, e, e1, e2⟩
  · have e1 : dm3 x s = some (1, nw s 82 0) := by
      unfold dm3
      rw [e]
      rfl
    obtain ⟨l1, v1⟩ := fin _ _ e1
    rcases d180 v1.2.1 hv.2.1.2 v1.1 hv.1.2.1 (T122 _ l1) x with ⟨d, f⟩ | ⟨d, -⟩ | ⟨d, -⟩
    · have q := dt180 (sio := true) (d := 2000) (by decide) l1 f
      exact ⟨_, _, _, ns, e1, l1, f, by rw [sI_wI, if_pos ⟨rfl, rfl⟩], SS.on q.1 l1 (hv.thr hl (by decide)) (v1.t0 1).2 (v1.t0 1).1, (gw_nw s).tr (v1.t0 1).2⟩
    · exact absurd d c
    · exact absurd d c
  · have e1 : dm3 x s = some (2, nw s 80 0) := by
      unfold dm3
      rw [e]
      rfl
    obtain ⟨l1, v1⟩ := fin _ _ e1
    rcases d180 v1.2.1 hv.2.1.2 v1.1 hv.1.2.1 (T122 _ l1) x with ⟨d, f⟩ | ⟨d, -, f⟩ | ⟨d, d2, -⟩
    · exact absurd c d
    · have q := dt180 (sio := true) (d := 2000) (by decide) l1 f
      exact ⟨_, _, _, ns, e1, l1, f, by rw [sI_wI, if_pos ⟨rfl, rfl⟩], SS.on q.1 l1 (hv.thr hl (by decide)) (v1.t0 2).2 (v1.t0 2).1, (gw_nw s).tr (v1.t0 2).2⟩
    · exact absurd d2 c2
  · have e3 : dm3 x s = some (0, s1) := by
      unfold dm3
      rw [e]
      rfl
    obtain ⟨l1, v1⟩ := fin _ _ e3
    have w1 : CV s1 t (ns.set x.toInt.toNat t) := hv.nm hl e2 e1 (ok_set hv.2.1.2 c2.1 hv.1.2.2)
    rcases d180 v1.2.1 hv.2.1.2 v1.1 hv.1.2.1 (T122 _ l1) x with ⟨d, -⟩ | ⟨d, d2, -⟩ | ⟨d, d2, s2, f, f1, f2, f3⟩
    · exact absurd c d
    · exact absurd c2 d2
    · have q := dt180 (sio := true) (d := 2000) (by decide) l1 f
      have g : ch mA s1 s2 := f3.mono fun a k z => by unfold mA; omega
      exact ⟨_, _, s2, _, e3, l1, f, f2, SS.on q.1 l1 w1 g ⟨v1.1.of f3 (by omega) (fun j => by omega), f1, v1.2.2.1.of f3 (fun a k z => by omega), v1.2.2.2.1.of f3 (fun a k z => by omega), v1.2.2.2.2.1, v1.2.2.2.2.2.len (by rw [List.length_set]; omega)⟩, (gw_ch e2).tr f3⟩
set_option maxRecDepth 100000 in
theorem q_drop (h : SS tt xs s t ns fs lt) (x : Int32) : ∃ k s1 s2 ns1 fs1, dm4 x s = some (k, s1) ∧ Ly tt (cCc xs) s1 ∧ dm182 x s1 = some s2 ∧ sI s2 121 0 = k ∧ SS tt xs s2 t ns1 fs1 lt ∧ gw s s2 := by
  obtain ⟨hl, hv, hr⟩ := h
  have fin : ∀ k s1, dm4 x s = some (k, s1) → Ly tt (cCc xs) s1 ∧ RV s1 t ns fs lt := fun k s1 e => by
    have q := dt4 (sio := true) (d := 2000) (by decide) hl e
    exact ⟨q.1, hr.ex hl q.2.1⟩
  rcases y52 hv hl x with ⟨c, e⟩ | ⟨c, s1, e, e1, e2⟩
  · have e1 : dm4 x s = some (1, nw s 82 0) := by
      unfold dm4
      rw [e]
      rfl
    obtain ⟨l1, v1⟩ := fin _ _ e1
    rcases r182 v1 hv.2.1.2 x with ⟨d, s2, f, f1, f2, f3⟩ | ⟨d, -⟩
    · have q := dt182 (sio := true) (d := 2000) (by decide) l1 f
      exact ⟨_, _, s2, ns, fs, e1, l1, f, f1, SS.on q.1 l1 (hv.thr hl (by decide)) f3 f2, (gw_nw s).tr f3⟩
    · exact absurd d c
  · have e3 : dm4 x s = some (0, s1) := by
      unfold dm4
      rw [e]
      rfl
    obtain ⟨l1, v1⟩ := fin _ _ e3
    rcases r182 v1 hv.2.1.2 x with ⟨d, -⟩ | ⟨d, s2, fs1, f, f1, f2, f3⟩
    · exact absurd c d
    · have q := dt182 (sio := true) (d := 2000) (by decide) l1 f
      exact ⟨_, _, s2, _, fs1, e3, l1, f, f1, SS.on q.1 l1 e1 f3 f2, e2.tr f3⟩
set_option maxRecDepth 100000 in
theorem q_name (h : SS tt xs s t ns fs lt) (x y : Int32) : ∃ k s1 b s2, dm15 x y s = some (k, s1) ∧ Ly tt (cCc xs) s1 ∧ dm250 x y s1 = some (b, s2) ∧ sI s2 121 0 = k ∧ (k = 0 → sJ s2 148 0 = b.toInt64) ∧ SS tt xs s2 t ns fs lt ∧ gw s s2 := by
  obtain ⟨hl, hv, hr⟩ := h
  have fin : ∀ k s1, dm15 x y s = some (k, s1) → Ly tt (cCc xs) s1 ∧ RV s1 t ns fs lt := fun k s1 e => by
    have q := dt15 (sio := true) (d := 2000) (by decide) hl e
    exact ⟨q.1, hr.ex hl q.2.1⟩
  rcases d169 hv.2.1.1.1 (RC.ly hl) hv.2.1.2 x y with ⟨c, e⟩ | ⟨c, e⟩
  · have e1 : dm15 x y s = some (1, nw s 82 0) := by
      unfold dm15
      rw [e]
      rfl
    obtain ⟨l1, v1⟩ := fin _ _ e1
    rcases d250 v1.2.1 hv.2.1.2 x y with ⟨d, f⟩ | ⟨d, -⟩
    · have q := dt250 (sio := true) (d := 2000) (by decide) l1 f
      exact ⟨_, _, _, _, e1, l1, f, by rw [sI_wI, if_pos ⟨rfl, rfl⟩], fun z => absurd z (by decide), SS.on q.1 l1 (hv.thr hl (by decide)) (v1.t0 1).2 (v1.t0 1).1, (gw_nw s).tr (v1.t0 1).2⟩
    · exact absurd d c
  · have e3 : dm15 x y s = some (0, wJ s 148 (jN 0) (if y.toInt < 0 then -1 else (ns.getD x.toInt.toNat []).getD y.toInt.toNat (-1) : Int32).toInt64) := by
      unfold dm15
      rw [e]
      simp only [bv_some]
      rw [zN_l, vI_int, if_pos a01, nx_eq]
    obtain ⟨l1, v1⟩ := fin _ _ e3
    rcases d250 v1.2.1 hv.2.1.2 x y with ⟨d, -⟩ | ⟨d, f⟩
    · exact absurd c d
    · have q := dt250 (sio := true) (d := 2000) (by decide) l1 f
      exact ⟨_, _, _, _, e3, l1, f, by rw [sI_wI, if_pos ⟨rfl, rfl⟩], fun _ => by rw [sJ_wI, sJ_wJ, if_pos ⟨rfl, rfl⟩], SS.on q.1 l1 hv.j (v1.t0 0).2 (v1.t0 0).1, ((gw_ch (ch.refl (fun _ _ => False) s)).j (k := jN 0)).tr (v1.t0 0).2⟩
end SSs
end
section
/-! the reader of FormulaTrees, exactly: its tree -/
def TR (s : aS) (b z : Nat) (M : List NN) : Prop := sI s b 2 = Int32.ofNat M.length ∧ M.length ≤ 128 ∧ ∃ u, TL s b u ∧ u.length ≤ z ∧ ∀ k n, M[k]? = some n → CR s b k n.2.1 ∧ NL s b k u n.2.2
section XX
variable {s s1 : aS} {b z z1 : Nat} {M : List NN} {A : Nat → Nat → Prop}
set_option maxRecDepth 100000 in
theorem TR.of (h : TR s b z M) (g : ch A s s1) (h0 : ¬ A b 2) (h1 : ∀ k, ¬ A (b + 1) k) (h2 : ¬ A (b + 2) 1) (h3 : ∀ k, ¬ A (b + 3) k) : TR s1 b z M := by
  obtain ⟨a1, a2, u, a3, a4, a5⟩ := h
  refine ⟨(g.i h0).trans a1, a2, u, a3.of g h2 h3, a4, fun k n q => ?_⟩
  obtain ⟨c1, st, e1, e2, e3, e4⟩ := a5 k n q
  exact ⟨fun w hw => (g.i (h1 _)).trans (c1 w hw), st, (g.i (h1 _)).trans e1, (g.i (h1 _)).trans e2, e3, e4⟩
set_option maxRecDepth 100000 in
theorem TR.up (h : TR s b z M) (hz : z ≤ z1) : TR s b z1 M := by
  obtain ⟨a1, a2, u, a3, a4, a5⟩ := h
  exact ⟨a1, a2, u, a3, by omega, a5⟩
set_option maxRecDepth 100000 in
/-- numbers of nodes are no matter -/
theorem TR.eq {L : List NN} (h : TR s b z M) (hl : L.map (fun n => n.2) = M.map (fun n => n.2)) : TR s b z L := by
  obtain ⟨a1, a2, u, a3, a4, a5⟩ := h
  have e : L.length = M.length := by
    have := congrArg List.length hl
    rw [List.length_map, List.length_map] at this
    exact this
  refine ⟨by rw [e]; exact a1, by rw [e]; exact a2, u, a3, a4, fun k n q => ?_⟩
  have q2 : (L.map (fun n => n.2))[k]? = some n.2 := by rw [List.getElem?_map, q]; rfl
  rw [hl, List.getElem?_map] at q2
  cases hm : M[k]? with
  | none =>
    rw [hm] at q2
    cases q2
  | some m =>
    rw [hm] at q2
    have q3 : m.2 = n.2 := Option.some.inj q2
    have := a5 k m hm
    rw [q3] at this
    exact this
set_option maxRecDepth 100000 in
theorem mid_l {A B : List NN} {x : NN} {k : Nat} (h : k < A.length) : (A ++ x :: B)[k]? = (A ++ B)[k]? := by rw [List.getElem?_append_left h, List.getElem?_append_left h]
set_option maxRecDepth 100000 in
theorem mid_m {A B : List NN} {x : NN} : (A ++ x :: B)[A.length]? = some x := by
  rw [List.getElem?_append_right (Nat.le_refl _), Nat.sub_self]
  rfl
set_option maxRecDepth 100000 in
theorem mid_r {A B : List NN} {x : NN} {k : Nat} (h : A.length < k) : (A ++ x :: B)[k]? = (A ++ B)[k - 1]? := by
  rw [List.getElem?_append_right (by omega), List.getElem?_append_right (by omega), show k - A.length = (k - 1 - A.length) + 1 by omega]
  rfl
set_option maxRecDepth 100000 in
theorem mid_s {A B : List NN} {x y : NN} {k : Nat} (h : k ≠ A.length) : (A ++ x :: B)[k]? = (A ++ y :: B)[k]? := by
  by_cases c : k < A.length
  · rw [mid_l c, mid_l c]
  · rw [mid_r (by omega), mid_r (by omega)]
set_option maxRecDepth 100000 in
/-- a node put in -/
theorem x72 {C B : List NN} {q : Nat} {kd c : Int32} (h : TR s b z (C ++ B)) (h8 : (C ++ B).length < 128) : ∃ s', dm72 b (Int32.ofNat C.length) kd c s = some s' ∧ TR s' b z (C ++ (q, plF kd c, []) :: B) ∧ ch (fun a j => (a = b ∧ j = 2) ∨ a = b + 1) s s' := by
  obtain ⟨a1, a2, u, a3, a4, a5⟩ := h
  obtain ⟨N, hN⟩ : ∃ N, N = (C ++ B).length := ⟨_, rfl⟩
  obtain ⟨p, hp⟩ : ∃ p, p = C.length := ⟨_, rfl⟩
  have hpN : p ≤ N := by rw [hN, hp, List.length_append]; omega
  rw [← hN] at a1 a2 h8
  obtain ⟨s1, l1, l2, l3⟩ := k72l (b := b) (x2 := kd) (x3 := c) hpN h8 (11 * N - 11 * p) 5000 s (by omega) (by omega)
  rw [show 11 * p + (11 * N - 11 * p) = 11 * N by omega] at l1 l2 l3
  have e1 : sI s1 b 2 = Int32.ofNat N := (l3.i (by omega)).trans a1
  have h2 : sI (wI s1 b 2 (Int32.ofNat (N + 1))) b 2 = Int32.ofNat (N + 1) := by rw [sI_wI, if_pos ⟨rfl, rfl⟩]
  obtain ⟨s2, m1, m2, m3⟩ := d59 (k := kd) (c := c) h2 (show N + 1 ≤ 128 by omega) (show p < N + 1 by omega)
  have cc : ch (fun a k => (a = b ∧ k = 2) ∨ a = b + 1) s s2 := ((l3.mono fun a k z => Or.inr z.1).wI (Or.inl ⟨rfl, rfl⟩)).trans (m3.mono fun a k z => Or.inr z.1)
  have lo : ∀ j, j < 11 * p → sI s2 (b + 1) j = sI s (b + 1) j := fun j hj => by rw [m3.i (by omega), sI_wI, if_neg (by omega), l3.i (by omega)]
  have hi : ∀ j, 11 * p ≤ j → j < 11 * N → sI s2 (b + 1) (j + 11) = sI s (b + 1) j := fun j hj1 hj2 => by rw [m3.i (by omega), sI_wI, if_neg (by omega), l2 j hj1 hj2]
  have hlen : (C ++ (q, plF kd c, []) :: B).length = N + 1 := by rw [hN, List.length_append, List.length_append, List.length_cons]; omega
  refine ⟨s2, ?_, ⟨?_, by omega, u, a3.of cc (by omega) (fun k => by omega), a4, fun k n hk => ?_⟩, cc⟩
  · unfold dm72 dm71
    rw [a1, if_pos (show Int32.ofNat N < 128 from (nlt_iff (b := 128) (by omega) (by omega)).mpr (by omega))]
    simp only [bu_some]
    rw [if_pos trivial, ← hp, if_neg (fun z => by have := (nlt_iff (b := 0) (by omega) (by omega)).mp z; omega), if_pos ((nle_iff (by omega) (by omega)).mpr hpN), mul11 (by omega), l1, e1, ofNat_succ (by omega), nx_eq, m1]
    rfl
  · rw [hlen, m3.i (by omega)]
    exact h2
  · have hkN : k < N + 1 := by
      rw [← hlen]
      exact (List.getElem?_eq_some_iff.mp hk).1
    by_cases k1 : k = p
    · subst k1
      rw [hp, mid_m] at hk
      cases hk
      refine ⟨fun w hw => m2 w (by omega), 0, m2 9 (by decide), m2 10 (by decide), Nat.zero_le _, fun j hj => absurd hj (Nat.not_lt_zero j)⟩
    · by_cases k2 : k < p
      · rw [mid_l (by omega)] at hk
        obtain ⟨r0, st, r1, r2, r3, r4⟩ := a5 k n hk
        exact ⟨fun w hw => (lo _ (by omega)).trans (r0 w hw), st, (lo _ (by omega)).trans r1, (lo _ (by omega)).trans r2, r3, r4⟩
      · rw [mid_r (by omega)] at hk
        obtain ⟨r0, st, r1, r2, r3, r4⟩ := a5 (k - 1) n hk
        have sh : ∀ w, w < 11 → sI s2 (b + 1) (11 * k + w) = sI s (b + 1) (11 * (k - 1) + w) := fun w hw => by
          rw [show 11 * k + w = (11 * (k - 1) + w) + 11 by omega]
          exact hi _ (by omega) (by omega)
        exact ⟨fun w hw => (sh w (by omega)).trans (r0 w hw), st, (sh 9 (by omega)).trans r1, (sh 10 (by omega)).trans r2, r3, r4⟩
set_option maxRecDepth 100000 in
/-- a fact of a node becomes another -/
theorem TR.set {C B : List NN} {n : NN} {w : Nat} {v : Int32} (h : TR s b z (C ++ n :: B)) (hw : w < 9) : TR (wI s (b + 1) (11 * C.length + w) v) b z (C ++ (n.1, setN n.2.1 w v, n.2.2) :: B) := by
  obtain ⟨a1, a2, u, a3, a4, a5⟩ := h
  have el : (C ++ (n.1, setN n.2.1 w v, n.2.2) :: B).length = (C ++ n :: B).length := by rw [List.length_append, List.length_append, List.length_cons, List.length_cons]
  have g : ch (fun a _ => a = b + 1) s (wI s (b + 1) (11 * C.length + w) v) := (ch.refl _ s).wI rfl
  refine ⟨by rw [el, g.i (by omega)]; exact a1, by rw [el]; exact a2, u, a3.of g (by omega) (fun k => by omega), a4, fun k m hk => ?_⟩
  by_cases e : k = C.length
  · subst e
    rw [mid_m] at hk
    cases hk
    obtain ⟨r0, st, r1, r2, r3, r4⟩ := a5 C.length n mid_m
    refine ⟨CR.set r0 (by omega), st, ?_, ?_, r3, r4⟩
    · rw [sI_wI, if_neg (by omega)]
      exact r1
    · rw [sI_wI, if_neg (by omega)]
      exact r2
  · rw [mid_s (y := n) e] at hk
    obtain ⟨r0, st, r1, r2, r3, r4⟩ := a5 k m hk
    have ne : ∀ j, j < 11 → sI (wI s (b + 1) (11 * C.length + w) v) (b + 1) (11 * k + j) = sI s (b + 1) (11 * k + j) := fun j hj => by rw [sI_wI, if_neg (by omega)]
    exact ⟨fun j hj => (ne j (by omega)).trans (r0 j hj), st, (ne 9 (by omega)).trans r1, (ne 10 (by omega)).trans r2, r3, r4⟩
set_option maxRecDepth 100000 in
theorem TR.len (h : TR s b z M) : sI s b 2 = Int32.ofNat M.length := h.1
set_option maxRecDepth 100000 in
theorem TR.le (h : TR s b z M) : M.length ≤ 128 := h.2.1
set_option maxRecDepth 100000 in
theorem mid_len {C B : List NN} {n : NN} : C.length < (C ++ n :: B).length := by rw [List.length_append, List.length_cons]; omega
set_option maxRecDepth 100000 in
theorem x60 {C B : List NN} {n : NN} {w : Nat} {v : Int32} (h : TR s b z (C ++ n :: B)) (hw : w < 11) : dm60 b (Int32.ofNat C.length) (Int32.ofNat w) v s = some (wI s (b + 1) (11 * C.length + w) v) := d60 h.1 h.2.1 mid_len hw
set_option maxRecDepth 100000 in
theorem x57 {C B : List NN} {n : NN} {w : Nat} (h : TR s b z (C ++ n :: B)) (hw : w < 9) : dm57 b (Int32.ofNat C.length) (Int32.ofNat w) s = some (n.2.1 w) := by
  rw [d57 h.1 h.2.1 mid_len (by omega)]
  obtain ⟨-, -, u, -, -, a5⟩ := h
  rw [(a5 C.length n mid_m).1 w hw]
set_option maxRecDepth 100000 in
/-- letters given to the last node -/
theorem x107 {C : List NN} {n : NN} {hd : List Int32} (h : TR s b z (C ++ [n])) (hb : b = 102 ∨ 149 ≤ b) (h3 : (sT s (b + 3)).2 = 256) (h108 : (sT s 108).2 = 256) (hh : HH s hd) (hz : z + hd.length ≤ 256) : ∃ s', dm107 b (Int32.ofNat C.length) 107 s = some s' ∧ TR s' b (z + hd.length) (C ++ [(n.1, n.2.1, hd)]) ∧ ch (fun a k => a = b + 1 ∨ (a = b + 2 ∧ k = 1) ∨ a = b + 3) s s' := by
  have x9 : ∀ v, dm60 b (Int32.ofNat C.length) 9 v s = some (wI s (b + 1) (11 * C.length + 9) v) := fun v => x60 (w := 9) h (by omega)
  obtain ⟨a1, a2, u, a3, a4, a5⟩ := h
  have hhl := hh.2.1
  have hul := a3.2.1
  have el : (C ++ [(n.1, n.2.1, hd)]).length = (C ++ [n]).length := by rw [List.length_append, List.length_append]; rfl
  let s2 := wI (wI s (b + 1) (11 * C.length + 9) (Int32.ofNat u.length)) (b + 1) (11 * C.length + 10) (Int32.ofNat hd.length)
  have ch2 : ch (fun a _ => a = b + 1) s s2 := ((ch.refl (fun a _ => a = b + 1) s).wI rfl).wI rfl
  have hC := a2
  rw [List.length_append] at hC
  have hC : C.length + 1 ≤ 128 := hC
  have x10 : dm60 b (Int32.ofNat C.length) 10 (Int32.ofNat hd.length) (wI s (b + 1) (11 * C.length + 9) (Int32.ofNat u.length)) = some s2 := d60 (n := (C ++ [n]).length) (w := 10) (by rw [sI_wI, if_neg (by omega)]; exact a1) a2 (by rw [List.length_append]; show C.length < C.length + 1; omega) (by omega)
  have e0 : dm107 b (Int32.ofNat C.length) 107 s = dm107_15 5000 b 107 0 s2 := by
    unfold dm107
    have q1 : dm28 (b + 2) s = some (Int32.ofNat u.length) := by unfold dm28; rw [a3.1.n]
    rw [q1]
    simp only [bu_some]
    rw [x9]
    simp only [bu_some]
    have q2 : dm28 107 (wI s (b + 1) (11 * C.length + 9) (Int32.ofNat u.length)) = some (Int32.ofNat hd.length) := by
      unfold dm28
      rw [sI_wI, if_neg (by omega), hh.1.n]
    rw [q2]
    simp only [bu_some]
    rw [x10]
    rfl
  have loop : ∀ (m j n : Nat) (s3 : aS), ch (fun a k => a = b + 1 ∨ (a = b + 2 ∧ k = 1) ∨ a = b + 3) s s3 → LT s3 (b + 2) (u ++ hd.take j) → j + m = hd.length → m < n → ∃ s4, dm107_15 n b 107 (Int32.ofNat j) s3 = some s4 ∧ LT s4 (b + 2) (u ++ hd) ∧ ch (fun a k => (a = b + 2 ∧ k = 1) ∨ a = b + 3) s3 s4 := by
    intro m
    induction m with
    | zero =>
      intro j n s3 c3 l3 h1 h2
      obtain ⟨n, rfl⟩ : ∃ q, n = q + 1 := ⟨n - 1, by omega⟩
      have e1 : sI s3 107 1 = Int32.ofNat hd.length := (c3.i (by omega)).trans hh.1.n
      rw [dm107_15]
      unfold dm28
      simp only [bu_some]
      rw [e1, if_pos ((nle_iff (by omega) (by omega)).mpr (by omega))]
      rw [List.take_of_length_le (by omega)] at l3
      exact ⟨s3, rfl, l3, ch.refl _ s3⟩
    | succ m ih =>
      intro j n s3 c3 l3 h1 h2
      obtain ⟨n, rfl⟩ : ∃ q, n = q + 1 := ⟨n - 1, by omega⟩
      have e1 : LT s3 107 hd := hh.1.of c3 (by omega) (fun k => by omega)
      have hj : j < hd.length := by omega
      have hT : (sT s3 108).2 = 256 := by rw [c3.2.1]; exact h108
      rw [dm107_15]
      unfold dm28
      simp only [bu_some]
      rw [e1.n, if_neg (fun q => by have := (nle_iff (by omega) (by omega)).mp q; omega), d34 e1 (by rw [hT]; exact hhl) (by omega) (by omega), getD_in hj]
      simp only [bu_some]
      have hxo := hh.2.2 hd[j] (List.getElem_mem hj)
      have hlen : (u ++ hd.take j).length < 256 := by rw [List.length_append, List.length_take]; omega
      obtain ⟨s4, f1, f2, f3⟩ := l3.add (m := 256) (by rw [c3.2.1]; exact h3) (by decide) hlen (x := hd[j]) ⟨by omega, by omega⟩
      rw [f1]
      simp only [bu_some]
      rw [ofNat_succ (by omega)]
      have l4 : LT s4 (b + 2) (u ++ hd.take (j + 1)) := by
        rw [List.take_succ_eq_append_getElem hj, ← List.append_assoc]
        exact f2
      obtain ⟨s5, k1, k2, k3⟩ := ih (j + 1) n s4 (c3.trans (f3.mono fun a k z => by omega)) l4 (by omega) (by omega)
      exact ⟨s5, k1, k2, (f3.mono fun a k z => by omega).trans k3⟩
  obtain ⟨s4, l1, l2, l3⟩ := loop hd.length 0 5000 s2 (ch2.mono fun a k z => Or.inl z) (by rw [List.take_zero, List.append_nil]; exact a3.1.of ch2 (by omega) (fun k => by omega)) (by omega) (by omega)
  have cc : ch (fun a k => a = b + 1 ∨ (a = b + 2 ∧ k = 1) ∨ a = b + 3) s s4 := (ch2.mono fun a k z => Or.inl z).trans (l3.mono fun a k z => Or.inr z)
  refine ⟨s4, e0.trans l1, ⟨by rw [el, cc.i (by omega)]; exact a1, by rw [el]; exact a2, u ++ hd, ⟨l2, by rw [List.length_append]; omega, fun y hy => ?_⟩, by rw [List.length_append]; omega, fun k m hk => ?_⟩, cc⟩
  · rcases List.mem_append.mp hy with q | q
    · exact a3.2.2 y q
    · exact hh.2.2 y q
  · by_cases e : k = C.length
    · subst e
      rw [mid_m] at hk
      cases hk
      obtain ⟨r0, -⟩ := a5 C.length n mid_m
      refine ⟨fun w hw => ?_, u.length, ?_, ?_, (show u.length + hd.length ≤ (u ++ hd).length by rw [List.length_append]; omega), fun j hj => ?_⟩
      · rw [l3.i (by omega)]
        show sI (wI (wI s (b + 1) (11 * C.length + 9) (Int32.ofNat u.length)) (b + 1) (11 * C.length + 10) (Int32.ofNat hd.length)) (b + 1) (11 * C.length + w) = _
        rw [sI_wI, if_neg (by omega), sI_wI, if_neg (by omega)]
        exact r0 w hw
      · rw [l3.i (by omega)]
        show sI (wI (wI s (b + 1) (11 * C.length + 9) (Int32.ofNat u.length)) (b + 1) (11 * C.length + 10) (Int32.ofNat hd.length)) (b + 1) (11 * C.length + 9) = _
        rw [sI_wI, if_neg (by omega), sI_wI, if_pos ⟨rfl, rfl⟩]
      · rw [l3.i (by omega)]
        show sI (wI (wI s (b + 1) (11 * C.length + 9) (Int32.ofNat u.length)) (b + 1) (11 * C.length + 10) (Int32.ofNat hd.length)) (b + 1) (11 * C.length + 10) = _
        rw [sI_wI, if_pos ⟨rfl, rfl⟩]
      · have hj : j < hd.length := hj
        rw [getD_in (by rw [List.length_append]; omega), List.getElem_append_right (by omega)]
        simp
    · rw [mid_s (y := n) e] at hk
      obtain ⟨r0, st, r1, r2, r3, r4⟩ := a5 k m hk
      have ne : ∀ j, j < 11 → sI s4 (b + 1) (11 * k + j) = sI s (b + 1) (11 * k + j) := fun j hj => by
        rw [l3.i (by omega)]
        show sI (wI (wI s (b + 1) (11 * C.length + 9) (Int32.ofNat u.length)) (b + 1) (11 * C.length + 10) (Int32.ofNat hd.length)) (b + 1) (11 * k + j) = _
        rw [sI_wI, if_neg (by omega), sI_wI, if_neg (by omega)]
      refine ⟨fun j hj => (ne j (by omega)).trans (r0 j hj), st, (ne 9 (by omega)).trans r1, (ne 10 (by omega)).trans r2, by rw [List.length_append]; omega, fun j hj => ?_⟩
      have := r4 j hj
      rw [getD_in (show st + j < u.length by omega)] at this
      rw [getD_in (show st + j < (u ++ hd).length by rw [List.length_append]; omega), List.getElem_append_left (by omega)]
      exact this
end XX
end
section
/-! the reader of FormulaTrees, exactly: operators that wait, and brackets (the last first) -/
def PPr (s : aS) : List (Int32 × Nat) → Prop
  | [] => True
  | p :: P => sI s 111 P.length = p.1 ∧ sI s 112 P.length = Int32.ofNat p.2 ∧ PPr s P
def BBr (s : aS) : List (Nat × Int32 × Nat) → Prop
  | [] => True
  | q :: B => sI s 114 B.length = Int32.ofNat q.1 ∧ sI s 115 B.length = q.2.1 ∧ sI s 116 B.length = Int32.ofNat q.2.2 ∧ BBr s B
def PB (s : aS) (P : List (Int32 × Nat)) (B : List (Nat × Int32 × Nat)) : Prop := (sI s 110 2 = Int32.ofNat P.length ∧ P.length ≤ 128 ∧ PPr s P) ∧ sI s 113 3 = Int32.ofNat B.length ∧ B.length ≤ 32 ∧ BBr s B
set_option maxRecDepth 100000 in
theorem PPr.of {s s1 : aS} : ∀ (P : List (Int32 × Nat)), (∀ k, k < P.length → sI s1 111 k = sI s 111 k ∧ sI s1 112 k = sI s 112 k) → PPr s P → PPr s1 P
  | [], _, _ => trivial
  | p :: P, e, h => ⟨(e P.length (Nat.lt_succ_self _)).1.trans h.1, (e P.length (Nat.lt_succ_self _)).2.trans h.2.1, PPr.of P (fun k hk => e k (Nat.lt_succ_of_lt hk)) h.2.2⟩
set_option maxRecDepth 100000 in
theorem BBr.of {s s1 : aS} : ∀ (B : List (Nat × Int32 × Nat)), (∀ k, k < B.length → sI s1 114 k = sI s 114 k ∧ sI s1 115 k = sI s 115 k ∧ sI s1 116 k = sI s 116 k) → BBr s B → BBr s1 B
  | [], _, _ => trivial
  | q :: B, e, h => ⟨(e B.length (Nat.lt_succ_self _)).1.trans h.1, (e B.length (Nat.lt_succ_self _)).2.1.trans h.2.1, (e B.length (Nat.lt_succ_self _)).2.2.trans h.2.2.1, BBr.of B (fun k hk => e k (Nat.lt_succ_of_lt hk)) h.2.2.2⟩
section XX
variable {s s1 : aS} {P : List (Int32 × Nat)} {B : List (Nat × Int32 × Nat)} {A : Nat → Nat → Prop}
set_option maxRecDepth 100000 in
theorem PB.of (h : PB s P B) (g : ch A s s1) (hA : ∀ a k, A a k → a < 110 ∨ 116 < a) : PB s1 P B := by
  have e : ∀ a k, 110 ≤ a → a ≤ 116 → sI s1 a k = sI s a k := fun a k h1 h2 => g.i fun q => by have := hA _ _ q; omega
  exact ⟨⟨(e 110 2 (by omega) (by omega)).trans h.1.1, h.1.2.1, h.1.2.2 |> PPr.of P (fun k _ => ⟨e 111 k (by omega) (by omega), e 112 k (by omega) (by omega)⟩)⟩, (e 113 3 (by omega) (by omega)).trans h.2.1, h.2.2.1, BBr.of B (fun k _ => ⟨e 114 k (by omega) (by omega), e 115 k (by omega) (by omega), e 116 k (by omega) (by omega)⟩) h.2.2.2⟩
def bA : List (Nat × Int32 × Nat) → Int32
  | [] => -1
  | q :: _ => q.2.1
def bP : List (Nat × Int32 × Nat) → Nat
  | [] => 0
  | q :: _ => q.1
def bS : List (Nat × Int32 × Nat) → Nat
  | [] => 0
  | q :: _ => q.2.2
set_option maxRecDepth 100000 in
theorem pb_top {q : Nat × Int32 × Nat} (h : PB s P (q :: B)) : ¬ sI s 113 3 ≤ 0 ∧ sI s 113 3 - 1 = Int32.ofNat B.length ∧ aB (sI s 113 3 - 1) 32 ∧ jN (sI s 113 3 - 1) = B.length := by
  have h1 := h.2.1
  have h2 : B.length + 1 ≤ 32 := h.2.2.1
  rw [List.length_cons] at h1
  have e : sI s 113 3 - 1 = Int32.ofNat B.length := by
    rw [h1, ofNat_sub1 (by omega) (by omega)]
    rfl
  refine ⟨fun q => ?_, e, by rw [e]; exact aB_of (by omega) (by omega), by rw [e]; exact jN_of (by omega)⟩
  rw [h1] at q
  have := (nle_iff (b := 0) (by omega) (by omega)).mp q
  omega
set_option maxRecDepth 100000 in
theorem pb_0 (h : PB s P []) : sI s 113 3 ≤ 0 := by
  rw [h.2.1]
  decide
set_option maxRecDepth 100000 in
theorem x74 (h : PB s P B) : dm74 s = some (bA B) := by
  unfold dm74
  cases B with
  | nil => rw [if_pos (pb_0 h)]; rfl
  | cons q B =>
    obtain ⟨a1, a2, a3, a4⟩ := pb_top h
    rw [if_neg a1, if_pos a3, a4, h.2.2.2.2.1]
    rfl
set_option maxRecDepth 100000 in
theorem x78 (h : PB s P B) : dm78 s = some (Int32.ofNat (bP B)) := by
  unfold dm78
  cases B with
  | nil => rw [if_pos (pb_0 h)]; rfl
  | cons q B =>
    obtain ⟨a1, a2, a3, a4⟩ := pb_top h
    rw [if_neg a1, if_pos a3, a4, h.2.2.2.1]
    rfl
set_option maxRecDepth 100000 in
theorem x79 (h : PB s P B) : dm79 s = some (Int32.ofNat (bS B)) := by
  unfold dm79
  cases B with
  | nil => rw [if_pos (pb_0 h)]; rfl
  | cons q B =>
    obtain ⟨a1, a2, a3, a4⟩ := pb_top h
    rw [if_neg a1, if_pos a3, a4, h.2.2.2.2.2.1]
    rfl
set_option maxRecDepth 100000 in
theorem x73 (h : PB s P B) : dm73 s = some (if bA B = -1 then 0 else 1) := by
  unfold dm73
  rw [x74 h]
  simp only [bu_some]
  split <;> rfl
set_option maxRecDepth 100000 in
theorem x82 (h : PB s P B) : dm82 s = some (Int32.ofNat B.length) := by
  unfold dm82
  rw [h.2.1]
set_option maxRecDepth 100000 in
/-- one more argument -/
theorem x76 {q : Nat × Int32 × Nat} (h : PB s P (q :: B)) : ∃ s1, dm76 s = some s1 ∧ PB s1 P ((q.1, q.2.1 + 1, q.2.2) :: B) ∧ ch (fun a k => a = 115) s s1 := by
  obtain ⟨a1, a2, a3, a4⟩ := pb_top h
  unfold dm76
  rw [if_neg a1, if_pos a3, if_pos a3, a4]
  simp only [nx_eq]
  refine ⟨_, rfl, ⟨⟨h.1.1, h.1.2.1, PPr.of (s := s) P (fun k _ => ⟨rfl, rfl⟩) h.1.2.2⟩, h.2.1, h.2.2.1, h.2.2.2.1, ?_, h.2.2.2.2.2.1, BBr.of (s := s) B (fun k hk => ⟨rfl, ?_, rfl⟩) h.2.2.2.2.2.2⟩, (ch.refl _ s).wI rfl⟩
  · rw [sI_wI, if_pos ⟨rfl, rfl⟩, h.2.2.2.2.1]
  · rw [sI_wI, if_neg (by omega)]
set_option maxRecDepth 100000 in
/-- cut back to what waited outside -/
theorem x65 {P1 P0 : List (Int32 × Nat)} (h : PB s (P1 ++ P0) B) : ∃ s1, dm65 (Int32.ofNat P0.length) s = some s1 ∧ PB s1 P0 B ∧ ch (fun a k => a = 110 ∧ k = 2) s s1 := by
  have hl := h.1.2.1
  have h1 := h.1.1
  rw [List.length_append] at hl h1
  have key : ∀ (Q : List (Int32 × Nat)), PPr s (Q ++ P0) → PPr s P0 := by
    intro Q
    induction Q with
    | nil => exact fun z => z
    | cons p Q ih => exact fun z => ih z.2.2
  have h0 := key P1 h.1.2.2
  unfold dm65
  rw [if_neg (fun z => by have := (nlt_iff (b := 0) (by omega) (by omega)).mp z; omega), h1]
  by_cases c : P1.length + P0.length ≤ P0.length
  · rw [if_pos ((nle_iff (by omega) (by omega)).mpr c)]
    exact ⟨s, rfl, ⟨⟨by rw [h1, show P1.length + P0.length = P0.length by omega], by omega, h0⟩, h.2⟩, ch.refl _ s⟩
  · rw [if_neg (fun z => c ((nle_iff (by omega) (by omega)).mp z)), nx_eq]
    exact ⟨_, rfl, ⟨⟨by rw [sI_wI, if_pos ⟨rfl, rfl⟩], by omega, PPr.of (s := s) P0 (fun k _ => ⟨rfl, rfl⟩) h0⟩, h.2.1, h.2.2.1, BBr.of (s := s) B (fun k _ => ⟨rfl, rfl, rfl⟩) h.2.2.2⟩, (ch.refl _ s).wI ⟨rfl, rfl⟩⟩
set_option maxRecDepth 100000 in
/-- a bracket closed -/
theorem x80 {q : Nat × Int32 × Nat} (h : PB s P (q :: B)) : ∃ s1, dm80 s = some s1 ∧ PB s1 P B ∧ ch (fun a k => a = 113 ∧ k = 3) s s1 := by
  obtain ⟨a1, a2, a3, a4⟩ := pb_top h
  have h2 : B.length + 1 ≤ 32 := h.2.2.1
  unfold dm80
  rw [if_neg a1, a2, nx_eq]
  exact ⟨_, rfl, ⟨⟨h.1.1, h.1.2.1, PPr.of (s := s) P (fun k _ => ⟨rfl, rfl⟩) h.1.2.2⟩, by rw [sI_wI, if_pos ⟨rfl, rfl⟩], by omega, BBr.of (s := s) B (fun k _ => ⟨rfl, rfl, rfl⟩) h.2.2.2.2.2.2⟩, (ch.refl _ s).wI ⟨rfl, rfl⟩⟩
set_option maxRecDepth 100000 in
/-- an operator waits -/
theorem x87 {x : Int32} {y : Nat} (h : PB s P B) (h8 : P.length < 128) : ∃ s1, dm87 x (Int32.ofNat y) s = some s1 ∧ PB s1 ((x, y) :: P) B ∧ ch (fun a k => (a = 110 ∧ k = 2) ∨ a = 111 ∨ a = 112) s s1 := by
  have h1 := h.1.1
  have b8 : aB (Int32.ofNat P.length) 128 := aB_of h8 (by omega)
  have j8 : jN (Int32.ofNat P.length) = P.length := jN_of (by omega)
  unfold dm87
  rw [h1, if_neg (fun z => by have := (nle_iff (a := 128) (by omega) (by omega)).mp z; omega), if_pos b8, j8]
  simp only [nx_eq]
  have e1 : sI (wI s 111 P.length x) 110 2 = Int32.ofNat P.length := by rw [sI_wI, if_neg (by omega)]; exact h1
  rw [e1, if_pos b8, j8]
  have e2 : sI (wI (wI s 111 P.length x) 112 P.length (Int32.ofNat y)) 110 2 = Int32.ofNat P.length := by rw [sI_wI, if_neg (by omega)]; exact e1
  rw [e2, ofNat_succ (by omega)]
  refine ⟨_, rfl, ⟨⟨by rw [sI_wI, if_pos ⟨rfl, rfl⟩]; rfl, h8, ?_, ?_, PPr.of (s := s) P (fun k hk => ⟨?_, ?_⟩) h.1.2.2⟩, h.2.1, h.2.2.1, BBr.of (s := s) B (fun k _ => ⟨rfl, rfl, rfl⟩) h.2.2.2⟩, (((ch.refl _ s).wI (by omega)).wI (by omega)).wI (by omega)⟩
  · rw [sI_wI, if_neg (by omega), sI_wI, if_neg (by omega), sI_wI, if_pos ⟨rfl, rfl⟩]
  · rw [sI_wI, if_neg (by omega), sI_wI, if_pos ⟨rfl, rfl⟩]
  · rw [sI_wI, if_neg (by omega), sI_wI, if_neg (by omega), sI_wI, if_neg (by omega)]
  · rw [sI_wI, if_neg (by omega), sI_wI, if_neg (by omega), sI_wI, if_neg (by omega)]
set_option maxRecDepth 100000 in
/-- a bracket opened -/
theorem x117 {x y : Nat} {v : Int32} (h : PB s P B) (h8 : B.length < 32) : ∃ s1, dm117 (Int32.ofNat x) v (Int32.ofNat y) s = some s1 ∧ PB s1 P ((x, v, y) :: B) ∧ ch (fun a k => (a = 113 ∧ k = 3) ∨ a = 114 ∨ a = 115 ∨ a = 116) s s1 := by
  have h1 := h.2.1
  have b8 : aB (Int32.ofNat B.length) 32 := aB_of h8 (by omega)
  have j8 : jN (Int32.ofNat B.length) = B.length := jN_of (by omega)
  unfold dm117
  rw [h1, if_neg (fun z => by have := (nle_iff (a := 32) (by omega) (by omega)).mp z; omega), if_pos b8, j8]
  simp only [nx_eq]
  have e1 : sI (wI s 114 B.length (Int32.ofNat x)) 113 3 = Int32.ofNat B.length := by rw [sI_wI, if_neg (by omega)]; exact h1
  rw [e1, if_pos b8, j8]
  have e2 : sI (wI (wI s 114 B.length (Int32.ofNat x)) 115 B.length v) 113 3 = Int32.ofNat B.length := by rw [sI_wI, if_neg (by omega)]; exact e1
  rw [e2, if_pos b8, j8]
  have e3 : sI (wI (wI (wI s 114 B.length (Int32.ofNat x)) 115 B.length v) 116 B.length (Int32.ofNat y)) 113 3 = Int32.ofNat B.length := by rw [sI_wI, if_neg (by omega)]; exact e2
  rw [e3, ofNat_succ (by omega)]
  refine ⟨_, rfl, ⟨⟨h.1.1, h.1.2.1, PPr.of (s := s) P (fun k _ => ⟨rfl, rfl⟩) h.1.2.2⟩, by rw [sI_wI, if_pos ⟨rfl, rfl⟩]; rfl, h8, ?_, ?_, ?_, BBr.of (s := s) B (fun k hk => ⟨?_, ?_, ?_⟩) h.2.2.2⟩, ((((ch.refl _ s).wI (by omega)).wI (by omega)).wI (by omega)).wI (by omega)⟩
  · rw [sI_wI, if_neg (by omega), sI_wI, if_neg (by omega), sI_wI, if_neg (by omega), sI_wI, if_pos ⟨rfl, rfl⟩]
  · rw [sI_wI, if_neg (by omega), sI_wI, if_neg (by omega), sI_wI, if_pos ⟨rfl, rfl⟩]
  · rw [sI_wI, if_neg (by omega), sI_wI, if_pos ⟨rfl, rfl⟩]
  · rw [sI_wI, if_neg (by omega), sI_wI, if_neg (by omega), sI_wI, if_neg (by omega), sI_wI, if_neg (by omega)]
  · rw [sI_wI, if_neg (by omega), sI_wI, if_neg (by omega), sI_wI, if_neg (by omega), sI_wI, if_neg (by omega)]
  · rw [sI_wI, if_neg (by omega), sI_wI, if_neg (by omega), sI_wI, if_neg (by omega), sI_wI, if_neg (by omega)]
/-- those end that bind at least so much -/
def eF (x : Int32) (base : Nat) : List (Int32 × Nat) → Nat → List (Int32 × Nat) × Nat
  | [], o => ([], o)
  | p :: P, o => if P.length + 1 ≤ base ∨ p.1 < x then (p :: P, o) else eF x base P p.2
set_option maxRecDepth 100000 in
theorem x86l {x : Int32} {base : Nat} (hb : base ≤ 200) : ∀ (P : List (Int32 × Nat)) (n o : Nat) (s : aS), PB s P B → P.length < n → ∃ s1, dm86_2 n (Int32.ofNat base) x (Int32.ofNat o) s = some (Int32.ofNat (eF x base P o).2, s1) ∧ PB s1 (eF x base P o).1 B ∧ ch (fun a k => a = 110 ∧ k = 2) s s1 := by
  intro P
  induction P with
  | nil =>
    intro n o s h hn
    obtain ⟨n, rfl⟩ : ∃ q, n = q + 1 := ⟨n - 1, by omega⟩
    have h1 : sI s 110 2 = Int32.ofNat 0 := h.1.1
    rw [dm86_2, h1, if_pos ((nle_iff (by omega) (by omega)).mpr (by omega))]
    exact ⟨s, rfl, h, ch.refl _ s⟩
  | cons p P ih =>
    intro n o s h hn
    obtain ⟨n, rfl⟩ : ∃ q, n = q + 1 := ⟨n - 1, by omega⟩
    have h1 : sI s 110 2 = Int32.ofNat (P.length + 1) := h.1.1
    have h8 : P.length + 1 ≤ 128 := h.1.2.1
    rw [List.length_cons] at hn
    rw [dm86_2, h1]
    unfold eF
    by_cases c1 : P.length + 1 ≤ base
    · rw [if_pos ((nle_iff (by omega) (by omega)).mpr c1), if_pos (Or.inl c1)]
      exact ⟨s, rfl, h, ch.refl _ s⟩
    · have e1 : Int32.ofNat (P.length + 1) - 1 = Int32.ofNat P.length := by
        rw [ofNat_sub1 (by omega) (by omega)]
        rfl
      rw [if_neg (fun z => c1 ((nle_iff (by omega) (by omega)).mp z)), if_neg (fun z => by have := (nle_iff (b := 0) (by omega) (by omega)).mp z; omega), e1, if_pos (aB_of (by omega) (by omega)), jN_of (by omega), h.1.2.2.1]
      by_cases c2 : p.1 < x
      · rw [if_pos c2, if_pos (Or.inr c2)]
        exact ⟨s, rfl, h, ch.refl _ s⟩
      · rw [if_neg c2, if_neg (fun z => z.elim c1 c2)]
        simp only [nx_eq]
        have e2 : sI (wI s 110 2 (Int32.ofNat P.length)) 110 2 = Int32.ofNat P.length := by rw [sI_wI, if_pos ⟨rfl, rfl⟩]
        have e3 : sI (wI s 110 2 (Int32.ofNat P.length)) 112 P.length = Int32.ofNat p.2 := by rw [sI_wI, if_neg (by omega)]; exact h.1.2.2.2.1
        rw [e2, if_pos (aB_of (by omega) (by omega)), jN_of (by omega), e3]
        have g : ch (fun a k => a = 110 ∧ k = 2) s (wI s 110 2 (Int32.ofNat P.length)) := (ch.refl _ s).wI ⟨rfl, rfl⟩
        obtain ⟨s1, k1, k2, k3⟩ := ih n p.2 (wI s 110 2 (Int32.ofNat P.length)) ⟨⟨e2, by omega, PPr.of (s := s) P (fun k _ => ⟨rfl, rfl⟩) h.1.2.2.2.2⟩, h.2.1, h.2.2.1, BBr.of (s := s) B (fun k _ => ⟨rfl, rfl, rfl⟩) h.2.2.2⟩ (by omega)
        exact ⟨s1, k1, k2, g.trans k3⟩
set_option maxRecDepth 100000 in
theorem x86 {x : Int32} {base o : Nat} (h : PB s P B) (hb : base ≤ 200) : ∃ s1, dm86 (Int32.ofNat base) x (Int32.ofNat o) s = some (Int32.ofNat (eF x base P o).2, s1) ∧ PB s1 (eF x base P o).1 B ∧ ch (fun a k => a = 110 ∧ k = 2) s s1 := x86l hb P 5000 o s h (by have := h.1.2.1; omega)
end XX
end
section
/-! what waits in the reference, as FormulaTrees holds it -/
def caF (f : Fw) : Int32 := if f.1 = 7 then 0 else if f.1 = 10 then 1 else 2
def hdC (f : Fw) : NN := (f.2.1.1, setN f.2.1.2.1 1 (caF f), f.2.1.2.2)
def frC (f : Fw) : List NN := if f.1 = 100 then [] else hdC f :: f.2.2.1
def flC : List Fw → List NN
  | [] => []
  | f :: F => flC F ++ frC f
def pO : List Fw → List (Int32 × Nat)
  | [] => []
  | f :: F => if f.1 = 100 ∨ f.1 = 7 then pO F else (rkM f.1, (flC F).length) :: pO F
def bO : List Fw → List (Nat × Int32 × Nat)
  | [] => []
  | f :: F => if f.1 = 100 then ((flC F).length, -1, (pO F).length) :: bO F else if f.1 = 7 then ((flC F).length, Int32.ofNat f.2.2.2.length, (pO F).length) :: bO F else bO F
set_option maxRecDepth 100000 in
theorem flC_len : ∀ F, (flC F).length = (fl F).length
  | [] => rfl
  | f :: F => by
    show (flC F ++ frC f).length = (fl F ++ frl f).length
    rw [List.length_append, List.length_append, flC_len F]
    unfold frC frl
    split <;> rfl
set_option maxRecDepth 100000 in
theorem bO_len : ∀ F, (bO F).length = nO F
  | [] => rfl
  | f :: F => by
    have ih := bO_len F
    show (bO (f :: F)).length = nO F + (if f.1 = 100 ∨ f.1 = 7 then 1 else 0)
    unfold bO
    by_cases c1 : f.1 = 100
    · rw [if_pos c1, if_pos (Or.inl c1), List.length_cons, ih]
    · rw [if_neg c1]
      by_cases c2 : f.1 = 7
      · rw [if_pos c2, if_pos (Or.inr c2), List.length_cons, ih]
      · rw [if_neg c2, if_neg (fun z => z.elim c1 c2), ih]
        rfl
set_option maxRecDepth 100000 in
theorem pO_len : ∀ F, (pO F).length ≤ (flC F).length
  | [] => Nat.le_refl _
  | f :: F => by
    have ih := pO_len F
    show (pO (f :: F)).length ≤ (flC F ++ frC f).length
    rw [List.length_append]
    unfold pO
    by_cases c : f.1 = 100 ∨ f.1 = 7
    · rw [if_pos c]
      omega
    · rw [if_neg c, List.length_cons]
      unfold frC
      rw [if_neg (fun z => c (Or.inl z)), List.length_cons]
      omega
set_option maxRecDepth 100000 in
theorem bS_le : ∀ F, bS (bO F) ≤ (pO F).length
  | [] => Nat.le_refl _
  | f :: F => by
    have ih := bS_le F
    have eb : bO (f :: F) = if f.1 = 100 then ((flC F).length, -1, (pO F).length) :: bO F else if f.1 = 7 then ((flC F).length, Int32.ofNat f.2.2.2.length, (pO F).length) :: bO F else bO F := rfl
    have ep : pO (f :: F) = if f.1 = 100 ∨ f.1 = 7 then pO F else (rkM f.1, (flC F).length) :: pO F := rfl
    rw [eb, ep]
    by_cases c1 : f.1 = 100
    · rw [if_pos c1, if_pos (Or.inl c1)]
      exact Nat.le_refl _
    · rw [if_neg c1]
      by_cases c2 : f.1 = 7
      · rw [if_pos c2, if_pos (Or.inr c2)]
        exact Nat.le_refl _
      · rw [if_neg c2, if_neg (fun z => z.elim c1 c2), List.length_cons]
        omega
set_option maxRecDepth 100000 in
/-- operators of the reference: their node as it is held -/
theorem up_hd {ns : List (List Int32)} {f : Fw} (h : gdF ns f) (hn : ¬ (f.1 = 100 ∨ f.1 = 7)) : upN f = hdC f := by
  rcases h with h | ⟨hk, -, -, -, -, h10, hB, -, -⟩
  · exact absurd (Or.inl h) hn
  · unfold upN hdC caF
    rw [if_neg (fun z => hn (Or.inr z))]
    rcases hk with q | q | q
    · exact absurd (Or.inr q) hn
    · rw [if_pos q, h10 q]
      rfl
    · have n10 : ¬ f.1 = 10 := fun z => by
        rw [z] at q
        unfold isB at q
        exact absurd q.1 (by decide)
      rw [if_neg n10, hB q]
      rfl
set_option maxRecDepth 100000 in
theorem rd_fl {ns : List (List Int32)} {x : Int32} : ∀ (F : List Fw) (cur : List NN), (∀ f ∈ F, gdF ns f) → flC (rdF x F cur).1 ++ (rdF x F cur).2 = flC F ++ cur
  | [], cur, _ => rfl
  | f :: F, cur, h => by
    unfold rdF
    by_cases c : f.1 = 100 ∨ f.1 = 7 ∨ rkM f.1 < x
    · rw [if_pos c]
    · rw [if_neg c, rd_fl F _ (fun g hg => h g (List.mem_cons_of_mem _ hg))]
      have c1 : ¬ (f.1 = 100 ∨ f.1 = 7) := fun z => c (z.elim Or.inl (fun q => Or.inr (Or.inl q)))
      show flC F ++ upN f :: (f.2.2.1 ++ cur) = (flC F ++ frC f) ++ cur
      unfold frC
      rw [if_neg (fun z => c (Or.inl z)), up_hd (h f List.mem_cons_self) c1, List.append_assoc]
      rfl
set_option maxRecDepth 100000 in
theorem rd_bO {x : Int32} : ∀ (F : List Fw) (cur : List NN), bO (rdF x F cur).1 = bO F
  | [], cur => rfl
  | f :: F, cur => by
    unfold rdF
    by_cases c : f.1 = 100 ∨ f.1 = 7 ∨ rkM f.1 < x
    · rw [if_pos c]
    · rw [if_neg c, rd_bO F _]
      show bO F = bO (f :: F)
      rw [bO, if_neg (fun z => c (Or.inl z)), if_neg (fun z => c (Or.inr (Or.inl z)))]
set_option maxRecDepth 100000 in
theorem eF_0 {x : Int32} {o : Nat} (P : List (Int32 × Nat)) : eF x P.length P o = (P, o) := by
  cases P with
  | nil => rfl
  | cons p P =>
    unfold eF
    rw [if_pos (Or.inl (by rw [List.length_cons]; omega))]
set_option maxRecDepth 100000 in
theorem rd_pO {x : Int32} : ∀ (F : List Fw) (cur : List NN), eF x (bS (bO F)) (pO F) (flC F).length = (pO (rdF x F cur).1, (flC (rdF x F cur).1).length)
  | [], cur => rfl
  | f :: F, cur => by
    unfold rdF
    by_cases c0 : f.1 = 100 ∨ f.1 = 7
    · have c : f.1 = 100 ∨ f.1 = 7 ∨ rkM f.1 < x := c0.elim Or.inl (fun q => Or.inr (Or.inl q))
      have e : bS (bO (f :: F)) = (pO F).length := by
        rw [bO]
        by_cases c1 : f.1 = 100
        · rw [if_pos c1]
          rfl
        · rw [if_neg c1, if_pos (c0.resolve_left c1)]
          rfl
      have ep : pO (f :: F) = pO F := by rw [pO, if_pos c0]
      rw [if_pos c, e, ep, eF_0]
    · have eb : bO (f :: F) = bO F := by rw [bO, if_neg (fun z => c0 (Or.inl z)), if_neg (fun z => c0 (Or.inr z))]
      have ep : pO (f :: F) = (rkM f.1, (flC F).length) :: pO F := by rw [pO, if_neg c0]
      have hb := bS_le F
      by_cases c2 : rkM f.1 < x
      · rw [if_pos (Or.inr (Or.inr c2)), eb, ep, eF, if_pos (Or.inr c2)]
      · rw [if_neg (fun z => z.elim (fun q => c0 (Or.inl q)) (fun z => z.elim (fun q => c0 (Or.inr q)) c2)), eb, ep, eF, if_neg (fun z => z.elim (fun q => by omega) c2)]
        exact rd_pO F _
set_option maxRecDepth 100000 in
theorem pO_cut {x : Int32} : ∀ (F : List Fw) (cur : List NN), ∃ P1, pO F = P1 ++ pO (rdF x F cur).1
  | [], cur => ⟨[], rfl⟩
  | f :: F, cur => by
    unfold rdF
    by_cases c : f.1 = 100 ∨ f.1 = 7 ∨ rkM f.1 < x
    · rw [if_pos c]
      exact ⟨[], rfl⟩
    · rw [if_neg c]
      obtain ⟨P1, e⟩ := pO_cut (x := x) F (upN f :: (f.2.2.1 ++ cur))
      refine ⟨(rkM f.1, (flC F).length) :: P1, ?_⟩
      rw [pO, if_neg (fun z => c (z.elim Or.inl (fun q => Or.inr (Or.inl q)))), e]
      rfl
set_option maxRecDepth 100000 in
theorem pl_1 (k c v : Int32) : setN (plF k c) 1 v = plF k v := by
  funext w
  unfold setN plF
  by_cases h1 : w = 1
  · subst h1
    rfl
  · rw [if_neg h1]
    by_cases h0 : w = 0
    · rw [if_pos h0, if_pos h0]
    · rw [if_neg h0, if_neg h0, if_neg h1, if_neg h1]
set_option maxRecDepth 100000 in
theorem bA_top {ns : List (List Int32)} : ∀ F, (∀ f ∈ F, gdF ns f) → (bA (bO F) = -1 ∧ inM F ≠ 7) ∨ (bA (bO F) ≠ -1 ∧ inM F = 7)
  | [], _ => Or.inl ⟨rfl, by decide⟩
  | f :: F, h => by
    unfold bO inM
    by_cases c1 : f.1 = 100
    · rw [if_pos c1, if_pos (Or.inl c1), c1]
      exact Or.inl ⟨rfl, by decide⟩
    · rw [if_neg c1]
      by_cases c2 : f.1 = 7
      · rw [if_pos c2, if_pos (Or.inr c2)]
        refine Or.inr ⟨fun q => ?_, c2⟩
        have hl : f.2.2.2.length ≤ 29 := by
          rcases h f List.mem_cons_self with z | z
          · exact absurd z c1
          · exact z.2.2.2.2.2.2.2.1
        have q : Int32.ofNat f.2.2.2.length = -1 := q
        rw [iEq, iOfNat (by omega)] at q
        have e1 : (-1 : Int32).toInt = -1 := rfl
        omega
      · rw [if_neg c2, if_neg (fun z => z.elim c1 c2)]
        exact bA_top F (fun g hg => h g (List.mem_cons_of_mem _ hg))
set_option maxRecDepth 100000 in
theorem rd_ne {x : Int32} : ∀ (F : List Fw) (cur : List NN), cur ≠ [] → (rdF x F cur).2 ≠ []
  | [], cur, h => h
  | f :: F, cur, h => by
    unfold rdF
    by_cases c : f.1 = 100 ∨ f.1 = 7 ∨ rkM f.1 < x
    · rw [if_pos c]
      exact h
    · rw [if_neg c]
      exact rd_ne F _ (fun z => by cases z)
end
section
/-! the reader of FormulaTrees, exactly: signs, spaces, digits, letters held -/
set_option maxRecDepth 100000 in
theorem gd_eq {t : List Int32} {j : Nat} {c : Int32} (h1 : c ≠ -1) (h0 : c ≠ 0) : t.getD j (-1) = c ↔ t.getD j 0 = c := by
  by_cases hj : j < t.length
  · rw [getD_in hj, getD_in hj]
  · have e : ∀ d : Int32, t.getD j d = d := fun d => by simp [List.getD, List.getElem?_eq_none (Nat.le_of_not_lt hj)]
    rw [e, e]
    exact ⟨fun q => absurd q.symm h1, fun q => absurd q.symm h0⟩
set_option maxRecDepth 100000 in
theorem gd_p {t : List Int32} {j : Nat} {p : Int32 → Prop} (h1 : ¬ p (-1)) (h0 : ¬ p 0) : p (t.getD j (-1)) ↔ p (t.getD j 0) := by
  by_cases hj : j < t.length
  · rw [getD_in hj, getD_in hj]
  · have e : ∀ d : Int32, t.getD j d = d := fun d => by simp [List.getD, List.getElem?_eq_none (Nat.le_of_not_lt hj)]
    rw [e, e]
    exact ⟨fun q => absurd q h1, fun q => absurd q h0⟩
set_option maxRecDepth 100000 in
theorem gd_in {t : List Int32} {j : Nat} (h : j < t.length) : t.getD j (-1) = t.getD j 0 := by rw [getD_in h, getD_in h]
section XX
variable {s s1 : aS} {b : Nat} {t : List Int32} {ns : List (List Int32)}
set_option maxRecDepth 100000 in
theorem x34 (h : KS s b t ns) {j : Nat} (hj : j < 100000) : dm34 79 (Int32.ofNat j) s = some (t.getD j (-1)) := d34 h.1.1 (by show t.length ≤ (sT s 80).2; rw [h.1.2.2.2]; exact h.1.2.1) (by have := h.1.2.1; omega) (by omega)
set_option maxRecDepth 100000 in
theorem x28 (h : KS s b t ns) : dm28 79 s = some (Int32.ofNat t.length) := by
  unfold dm28
  rw [h.1.1.n]
set_option maxRecDepth 100000 in
theorem xtr (h : KS s b t ns) {β : Type} {x : Option β} {f : Nat → Option β} : vN (sR s 106 6) x f = f b ∧ aK s b 3 := by
  rw [h.2.1.1]
  exact ⟨rfl, h.2.1.2.1⟩
def a7 (a k : Nat) : Prop := a = 106 ∧ k = 7
set_option maxRecDepth 100000 in
theorem a7C {a k : Nat} (h : a7 a k) : AC b a k := by unfold a7 at h; unfold AC; omega
set_option maxRecDepth 100000 in
/-- spaces -/
theorem x67 (h : KS s b t ns) {i : Nat} (hi : i ≤ t.length) (h7 : sI s 106 7 = Int32.ofNat i) : ∃ s', dm67 s = some s' ∧ sI s' 106 7 = Int32.ofNat (skS t i) ∧ ch a7 s s' := by
  have hl := h.1.2.1
  have loop : ∀ (m i n : Nat) (s : aS), KS s b t ns → sI s 106 7 = Int32.ofNat i → i + m = t.length → m < n → ∃ s', dm67_0 n s = some s' ∧ sI s' 106 7 = Int32.ofNat (skS t i) ∧ ch a7 s s' := by
    intro m
    induction m with
    | zero =>
      intro i n s h h7 h1 h2
      obtain ⟨n, rfl⟩ : ∃ q, n = q + 1 := ⟨n - 1, by omega⟩
      rw [dm67_0, x28 h]
      simp only [bu_some]
      rw [h7, if_pos ((nle_iff (by omega) (by omega)).mpr (by omega))]
      have e : skS t i = i := by
        have := cnt_b (p := spP) (t := t) (i := i)
        unfold skS
        omega
      exact ⟨s, rfl, by rw [e]; exact h7, ch.refl _ s⟩
    | succ m ih =>
      intro i n s h h7 h1 h2
      obtain ⟨n, rfl⟩ : ∃ q, n = q + 1 := ⟨n - 1, by omega⟩
      rw [dm67_0, x28 h]
      simp only [bu_some]
      rw [h7, if_neg (fun q => by have := (nle_iff (by omega) (by omega)).mp q; omega), x34 h (by omega)]
      simp only [bu_some]
      by_cases c : t.getD i (-1) = 32
      · rw [if_pos c, ofNat_succ (by omega), nx_eq]
        have g : ch a7 s (wI s 106 7 (Int32.ofNat (i + 1))) := (ch.refl _ s).wI ⟨rfl, rfl⟩
        obtain ⟨s', k1, k2, k3⟩ := ih (i + 1) n (wI s 106 7 (Int32.ofNat (i + 1))) (h.of (g.mono fun a k z => a7C z)) (by rw [sI_wI, if_pos ⟨rfl, rfl⟩]) (by omega) (by omega)
        have e : skS t (i + 1) = skS t i := by
          have := (cnt_y (p := spP) (d := -1) (by unfold spP; decide) c).2
          unfold skS
          omega
        exact ⟨s', k1, by rw [k2, e], g.trans k3⟩
      · rw [if_neg c]
        have e : skS t i = i := by
          have := cnt_n (p := spP) (t := t) (i := i) (d := -1) c
          unfold skS
          omega
        exact ⟨s, rfl, by rw [e]; exact h7, ch.refl _ s⟩
  exact loop (t.length - i) i 5000 s h h7 (by omega) (by omega)
set_option maxRecDepth 100000 in
/-- digits -/
noncomputable def ndM (t : List Int32) (i m : Nat) : Nat := if nd1 t i ≤ m then nd1 t i else m
set_option maxRecDepth 100000 in
theorem x121 (h : KS s b t ns) {i mx : Nat} (hi : i ≤ t.length) (hm : mx ≤ 256) (h7 : sI s 106 7 = Int32.ofNat i) : ∃ s', dm121 (Int32.ofNat mx) s = some (Int32.ofNat (ndM t i mx), s') ∧ sI s' 106 7 = Int32.ofNat (i + ndM t i mx) ∧ ch a7 s s' := by
  have hl := h.1.2.1
  have loop : ∀ (m i c n : Nat) (s : aS), KS s b t ns → sI s 106 7 = Int32.ofNat i → i ≤ t.length → c + m = mx → m < n → ∃ s', dm121_2 n (Int32.ofNat mx) (Int32.ofNat c) s = some (Int32.ofNat (c + ndM t i m), s') ∧ sI s' 106 7 = Int32.ofNat (i + ndM t i m) ∧ ch a7 s s' := by
    intro m
    induction m with
    | zero =>
      intro i c n s h h7 hi h1 h2
      obtain ⟨n, rfl⟩ : ∃ q, n = q + 1 := ⟨n - 1, by omega⟩
      have e : ndM t i 0 = 0 := by
        unfold ndM
        split <;> omega
      rw [dm121_2, if_pos ((nle_iff (by omega) (by omega)).mpr (by omega)), e]
      exact ⟨s, rfl, h7, ch.refl _ s⟩
    | succ m ih =>
      intro i c n s h h7 hi h1 h2
      obtain ⟨n, rfl⟩ : ∃ q, n = q + 1 := ⟨n - 1, by omega⟩
      rw [dm121_2, if_neg (fun q => by have := (nle_iff (by omega) (by omega)).mp q; omega), h7, x34 h (by omega)]
      simp only [bu_some]
      rw [d47]
      simp only [bu_some]
      by_cases c1 : isD (t.getD i (-1))
      · rw [b01_t c1, if_neg (by decide), ofNat_succ (by omega), ofNat_succ (by omega), nx_eq]
        obtain ⟨q1, q2⟩ := cnt_y (p := isD) (d := -1) isDm c1
        have g : ch a7 s (wI s 106 7 (Int32.ofNat (i + 1))) := (ch.refl _ s).wI ⟨rfl, rfl⟩
        obtain ⟨s', k1, k2, k3⟩ := ih (i + 1) (c + 1) n (wI s 106 7 (Int32.ofNat (i + 1))) (h.of (g.mono fun a k z => a7C z)) (by rw [sI_wI, if_pos ⟨rfl, rfl⟩]) (by omega) (by omega) (by omega)
        have e : ndM t i (m + 1) = ndM t (i + 1) m + 1 := by
          unfold ndM nd1
          rw [q2]
          split <;> split <;> omega
        rw [e, show c + (ndM t (i + 1) m + 1) = c + 1 + ndM t (i + 1) m by omega, show i + (ndM t (i + 1) m + 1) = i + 1 + ndM t (i + 1) m by omega]
        exact ⟨s', k1, k2, g.trans k3⟩
      · rw [b01_f c1, if_pos rfl]
        have e : ndM t i (m + 1) = 0 := by
          have := cnt_n (p := isD) (t := t) (i := i) (d := -1) c1
          unfold ndM nd1
          rw [this]
          split <;> omega
        rw [e]
        exact ⟨s, rfl, h7, ch.refl _ s⟩
  have := loop mx i 0 5000 s h h7 hi (by omega) (by omega)
  rw [Nat.zero_add] at this
  exact this
/-- letters held -/
def aH (a k : Nat) : Prop := (a = 107 ∧ k = 1) ∨ a = 108
set_option maxRecDepth 100000 in
theorem aHC {a k : Nat} (h : aH a k) : AC b a k := by unfold aH at h; unfold AC; omega
set_option maxRecDepth 100000 in
theorem xHadd {hd : List Int32} {x : Int32} (h : KS s b t ns) (hh : HH s hd) (hl : hd.length < 256) (hx : 32 ≤ x.toInt ∧ x.toInt ≤ 126) : ∃ s', dm29 107 x s = some s' ∧ HH s' (hd ++ [x]) ∧ ch aH s s' := by
  obtain ⟨s', e1, e2, e3⟩ := hh.1.add (m := 256) (x := x) h.2.1.2.2.2.2 (by decide) hl ⟨by omega, by omega⟩
  refine ⟨s', e1, ⟨e2, by rw [List.length_append]; show hd.length + 1 ≤ 256; omega, fun y hy => ?_⟩, e3.mono fun a k z => by unfold aH; omega⟩
  rcases List.mem_append.mp hy with q | q
  · exact hh.2.2 y q
  · rw [List.mem_singleton.mp q]
    exact hx
set_option maxRecDepth 100000 in
theorem xHclr (s : aS) : ∃ s', dm26 107 s = some s' ∧ HH s' [] ∧ ch aH s s' := ⟨_, rfl, ⟨⟨by rw [sI_wI, if_pos ⟨rfl, rfl⟩]; rfl, fun j hj => absurd hj (Nat.not_lt_zero j)⟩, Nat.zero_le _, fun y hy => (by cases hy)⟩, (ch.refl _ s).wI (Or.inl ⟨rfl, rfl⟩)⟩
set_option maxRecDepth 100000 in
theorem sl_cons {k e : Nat} (h : k < e) (he : e ≤ t.length) : sl t k e = t.getD k (-1) :: sl t (k + 1) e := by
  unfold sl
  rw [List.drop_eq_getElem_cons (show k < t.length by omega), show e - k = (e - (k + 1)) + 1 by omega, List.take_succ_cons, getD_in (show k < t.length by omega)]
set_option maxRecDepth 100000 in
theorem sl_nil {k : Nat} : sl t k k = [] := by
  unfold sl
  rw [Nat.sub_self, List.take_zero]
set_option maxRecDepth 100000 in
theorem x122 (h : KS s b t ns) {f e : Nat} (hf : f ≤ e) (he : e ≤ t.length) : ∃ s', dm122 (Int32.ofNat f) (Int32.ofNat e) s = some s' ∧ HH s' ((sl t f e).map gr) ∧ ch aH s s' := by
  have hl := h.1.2.1
  have loop : ∀ (m k n : Nat) (s : aS) (w : List Int32), KS s b t ns → HH s w → w.length ≤ k → k + m = e → m < n → ∃ s', dm122_5 n (Int32.ofNat e) (Int32.ofNat k) s = some s' ∧ HH s' (w ++ (sl t k e).map gr) ∧ ch aH s s' := by
    intro m
    induction m with
    | zero =>
      intro k n s w h hh hw h1 h2
      obtain ⟨n, rfl⟩ : ∃ q, n = q + 1 := ⟨n - 1, by omega⟩
      have hk : k = e := by omega
      subst hk
      rw [dm122_5, if_pos ((nle_iff (by omega) (by omega)).mpr (by omega)), sl_nil]
      refine ⟨s, rfl, ?_, ch.refl _ s⟩
      rw [List.map_nil, List.append_nil]
      exact hh
    | succ m ih =>
      intro k n s w h hh hw h1 h2
      obtain ⟨n, rfl⟩ : ∃ q, n = q + 1 := ⟨n - 1, by omega⟩
      have ho := okg (okc (t := t) h.1.2.2.1 (show k < t.length by omega))
      obtain ⟨s2, a1, a2, a3⟩ := xHadd (x := gr (t.getD k (-1))) h hh (by omega) ho
      rw [dm122_5, if_neg (fun q => by have := (nle_iff (by omega) (by omega)).mp q; omega), x34 h (by omega)]
      simp only [bu_some, d35]
      rw [a1]
      simp only [bu_some]
      rw [ofNat_succ (by omega)]
      obtain ⟨s3, k1, k2, k3⟩ := ih (k + 1) n s2 (w ++ [gr (t.getD k (-1))]) (h.of (a3.mono fun a k z => aHC z)) a2 (by rw [List.length_append]; show w.length + 1 ≤ k + 1; omega) (by omega) (by omega)
      refine ⟨s3, k1, ?_, a3.trans k3⟩
      rw [sl_cons (show k < e by omega) he, List.map_cons]
      rw [List.append_assoc] at k2
      exact k2
  obtain ⟨s1, c1, c2, c3⟩ := xHclr s
  unfold dm122
  rw [c1]
  simp only [bu_some]
  obtain ⟨s2, k1, k2, k3⟩ := loop (e - f) f 5000 s1 [] (h.of (c3.mono fun a k z => aHC z)) c2 (Nat.zero_le _) (by omega) (by omega)
  exact ⟨s2, k1, k2, c3.trans k3⟩
/-- what stands in quotes -/
def aQ (a k : Nat) : Prop := (a = 106 ∧ k = 7) ∨ (a = 107 ∧ k = 1) ∨ a = 108
set_option maxRecDepth 100000 in
theorem aQC {a k : Nat} (h : aQ a k) : AC b a k := by unfold aQ at h; unfold AC; omega
set_option maxRecDepth 100000 in
theorem x105l {q : Int32} (hq0 : q ≠ 0) (hqm : q ≠ -1) : ∀ (m j n : Nat) (s : aS) (w : List Int32), KS s b t ns → sI s 106 7 = Int32.ofNat j → HH s w → w.length + 1 ≤ j → j ≤ t.length → t.length < j + m → m + 1 < n → (qtG t q m j = none ∧ ∃ s' e, dm105_11 n q 0 s = some (0, s') ∧ sI s' 106 7 = Int32.ofNat e ∧ e ≤ t.length ∧ ch aQ s s') ∨ ∃ u e s', qtG t q m j = some (u, e) ∧ dm105_11 n q 0 s = some (1, s') ∧ HH s' (w ++ u) ∧ sI s' 106 7 = Int32.ofNat e ∧ e ≤ t.length ∧ j < e ∧ u.length + j + 1 ≤ e ∧ ch aQ s s' := by
  intro m
  induction m with
  | zero =>
    intro j n s w h h7 hh hw hj hm hn
    omega
  | succ m ih =>
    intro j n s w h h7 hh hw hj hm hn
    have hl := h.1.2.1
    obtain ⟨n, rfl⟩ : ∃ k, n = k + 2 := ⟨n - 2, by omega⟩
    rw [dm105_11, x28 h]
    simp only [bu_some]
    rw [h7]
    unfold qtG
    by_cases c0 : t.length ≤ j
    · left
      rw [if_pos c0, if_pos ((nle_iff (by omega) (by omega)).mpr c0), if_pos (Or.inl trivial)]
      exact ⟨rfl, s, j, rfl, h7, hj, ch.refl _ s⟩
    · rw [if_neg c0, if_neg (fun z => c0 ((nle_iff (by omega) (by omega)).mp z)), if_pos trivial, x34 h (by omega)]
      simp only [bu_some]
      have ex : t.getD j 0 = t.getD j (-1) := (gd_in (by omega)).symm
      have ho := okc (t := t) h.1.2.2.1 (show j < t.length by omega)
      -- a letter is kept, and j goes on by d
      have keep : ∀ (d : Nat), 1 ≤ d → d ≤ 2 → j + d ≤ t.length → ∃ s2, dm29 107 (t.getD j (-1)) s = some s2 ∧ KS (wI s2 106 7 (Int32.ofNat (j + d))) b t ns ∧ HH (wI s2 106 7 (Int32.ofNat (j + d))) (w ++ [t.getD j (-1)]) ∧ ch aQ s (wI s2 106 7 (Int32.ofNat (j + d))) ∧ sI s2 106 7 = Int32.ofNat j := by
        intro d h1 h2 h3
        obtain ⟨s2, a1, a2, a3⟩ := xHadd h hh (by omega) ho
        have g : ch aQ s (wI s2 106 7 (Int32.ofNat (j + d))) := (a3.mono fun a k z => by unfold aH at z; unfold aQ; omega).wI (Or.inl ⟨rfl, rfl⟩)
        refine ⟨s2, a1, h.of (g.mono fun a k z => aQC z), ⟨a2.1.of (A := fun a k => a = 106 ∧ k = 7) ((ch.refl _ s2).wI ⟨rfl, rfl⟩) (by omega) (fun k => by omega), a2.2⟩, g, (a3.i (by unfold aH; omega)).trans h7⟩
      by_cases c1 : t.getD j (-1) = q
      · rw [if_pos c1, ex, if_pos c1]
        unfold dm105_29
        rw [if_neg (show ¬ (1 : Int32) = 0 by decide), h7, ofNat_succ (by omega), x34 h (by omega)]
        simp only [bu_some]
        by_cases c2 : t.getD (j + 1) (-1) = q
        · have c3 : t.getD (j + 1) 0 = q := (gd_eq hqm hq0).mp c2
          have hj2 : j + 1 < t.length := by
            refine Classical.byContradiction fun z => hq0 ?_
            have : t.getD (j + 1) 0 = 0 := by simp [List.getD, List.getElem?_eq_none (Nat.le_of_not_lt z)]
            rw [← c3, this]
          rw [if_pos c2, if_pos c3]
          unfold dm105_43 dm105_44
          rw [if_pos rfl, h7, x34 h (by omega)]
          simp only [bu_some]
          obtain ⟨s2, k1, k2, k3, k4, k5⟩ := keep 2 (by omega) (by omega) (by omega)
          rw [k1]
          simp only [bu_some]
          unfold dm105_55 dm105_65
          rw [if_neg (show ¬ (1 : Int32) = 0 by decide), if_pos rfl, k5, nx_eq, show Int32.ofNat j + 2 = Int32.ofNat (j + 2) from iSum (i := j) (j := 2) (by omega) (by omega)]
          rcases ih (j + 2) (n + 1) _ _ k2 (by rw [sI_wI, if_pos ⟨rfl, rfl⟩]) k3 (by rw [List.length_append]; show w.length + 1 + 1 ≤ j + 2; omega) (by omega) (by omega) (by omega) with ⟨e1, s', e, f1, f8, f9, f2⟩ | ⟨u, e, s', e1, f1, f2, f3, f4, f5, f6, f7⟩
          · left
            rw [e1]
            exact ⟨rfl, s', e, f1, f8, f9, k4.trans f2⟩
          · right
            rw [e1]
            refine ⟨q :: u, e, s', rfl, f1, ?_, f3, f4, by omega, by rw [List.length_cons]; omega, k4.trans f7⟩
            rw [List.append_assoc, c1] at f2
            exact f2
        · have c3 : ¬ t.getD (j + 1) 0 = q := fun z => c2 ((gd_eq hqm hq0).mpr z)
          rw [if_neg c2, if_neg c3]
          unfold dm105_44
          rw [if_neg (show ¬ (1 : Int32) = 0 by decide)]
          unfold dm105_55 dm105_64 dm105_65
          rw [if_neg (show ¬ (1 : Int32) = 0 by decide), if_neg (show ¬ (1 : Int32) = 0 by decide), h7, nx_eq, ofNat_succ (by omega)]
          have g : ch aQ s (wI s 106 7 (Int32.ofNat (j + 1))) := (ch.refl _ s).wI (Or.inl ⟨rfl, rfl⟩)
          have K := h.of (b := b) (g.mono fun a k z => aQC z)
          right
          refine ⟨[], j + 1, wI s 106 7 (Int32.ofNat (j + 1)), rfl, ?_, ?_, by rw [sI_wI, if_pos ⟨rfl, rfl⟩], by omega, by omega, by show 0 + j + 1 ≤ j + 1; omega, g⟩
          · rw [dm105_11, x28 K]
            simp only [bu_some]
            rw [if_neg (show ¬ (1 : Int32) = 0 by decide), if_pos (show (1 : Int32) = 0 ∨ True from Or.inr trivial), ite_self]
          · rw [List.append_nil]
            exact ⟨hh.1.of (A := fun a k => a = 106 ∧ k = 7) ((ch.refl _ s).wI ⟨rfl, rfl⟩) (by omega) (fun k => by omega), hh.2⟩
      · rw [if_neg c1, ex, if_neg c1]
        unfold dm105_29 dm105_43 dm105_44
        rw [if_pos rfl, if_pos rfl, h7, x34 h (by omega)]
        simp only [bu_some]
        obtain ⟨s2, k1, k2, k3, k4, k5⟩ := keep 1 (by omega) (by omega) (by omega)
        rw [k1]
        simp only [bu_some]
        unfold dm105_55 dm105_64 dm105_65
        rw [if_pos rfl, k5, nx_eq, ofNat_succ (by omega)]
        rcases ih (j + 1) (n + 1) _ _ k2 (by rw [sI_wI, if_pos ⟨rfl, rfl⟩]) k3 (by rw [List.length_append]; show w.length + 1 + 1 ≤ j + 1; omega) (by omega) (by omega) (by omega) with ⟨e1, s', e, f1, f8, f9, f2⟩ | ⟨u, e, s', e1, f1, f2, f3, f4, f5, f6, f7⟩
        · left
          rw [e1]
          exact ⟨rfl, s', e, f1, f8, f9, k4.trans f2⟩
        · right
          rw [e1]
          refine ⟨t.getD j (-1) :: u, e, s', rfl, f1, ?_, f3, f4, by omega, by rw [List.length_cons]; omega, k4.trans f7⟩
          rw [List.append_assoc] at f2
          exact f2
set_option maxRecDepth 100000 in
theorem x105 {q : Int32} {i : Nat} (hq0 : q ≠ 0) (hqm : q ≠ -1) (h : KS s b t ns) (h7 : sI s 106 7 = Int32.ofNat i) (hi : i < t.length) : (qtA t q i = none ∧ ∃ s' e, dm105 q s = some (0, s') ∧ sI s' 106 7 = Int32.ofNat e ∧ e ≤ t.length ∧ ch aQ s s') ∨ ∃ u e s', qtA t q i = some (u, e) ∧ dm105 q s = some (1, s') ∧ HH s' u ∧ sI s' 106 7 = Int32.ofNat e ∧ e ≤ t.length ∧ u.length + i + 2 ≤ e ∧ ch aQ s s' := by
  have hl := h.1.2.1
  obtain ⟨s1, c1, c2, c3⟩ := xHclr s
  have e7 : sI s1 106 7 = Int32.ofNat i := (c3.i (by unfold aH; omega)).trans h7
  have g : ch aQ s (wI s1 106 7 (Int32.ofNat (i + 1))) := (c3.mono fun a k z => by unfold aH at z; unfold aQ; omega).wI (Or.inl ⟨rfl, rfl⟩)
  unfold dm105 qtA
  rw [c1]
  simp only [bu_some]
  rw [e7, ofNat_succ (by omega), nx_eq]
  have hh : HH (wI s1 106 7 (Int32.ofNat (i + 1))) [] := ⟨c2.1.of (A := fun a k => a = 106 ∧ k = 7) ((ch.refl _ s1).wI ⟨rfl, rfl⟩) (by omega) (fun k => by omega), c2.2⟩
  rcases x105l hq0 hqm 300 (i + 1) 5000 (wI s1 106 7 (Int32.ofNat (i + 1))) [] (h.of (g.mono fun a k z => aQC z)) (by rw [sI_wI, if_pos ⟨rfl, rfl⟩]) hh (by show 0 + 1 ≤ i + 1; omega) (by omega) (by omega) (by omega) with ⟨e1, s', e, f1, f8, f9, f2⟩ | ⟨u, e, s', e1, f1, f2, f3, f4, f5, f6, f7⟩
  · exact Or.inl ⟨e1, s', e, f1, f8, f9, g.trans f2⟩
  · exact Or.inr ⟨u, e, s', e1, f1, f2, f3, f4, by omega, g.trans f7⟩
end XX
end
section
/-! the reader of FormulaTrees, exactly: nodes kept, numbers, texts, errors -/
/-- what a token at an operand may write -/
def aO (b a k : Nat) : Prop := (a = b ∧ k = 2) ∨ a = b + 1 ∨ (a = b + 2 ∧ k = 1) ∨ a = b + 3 ∨ (a = 106 ∧ 7 ≤ k) ∨ a = 107 ∨ a = 108 ∨ a = 109
set_option maxRecDepth 100000 in
theorem aOC {b a k : Nat} (h : aO b a k) : AC b a k := by unfold aO at h; unfold AC; omega
def Wr (b : Nat) (s : aS) (D : Option aS) : Prop := ∃ s', D = some s' ∧ sI s' 106 8 ≠ -1 ∧ ch (aO b) s s'
def Nw (b : Nat) (s : aS) (z : Nat) (M : List NN) (n : NN) (w : Int32) (D : Option aS) : Prop := ∃ s', D = some s' ∧ TR s' b z (M ++ [n]) ∧ sI s' 106 7 = Int32.ofNat z ∧ sI s' 106 8 = -1 ∧ sI s' 106 9 = w ∧ sI s' 106 10 = Int32.ofNat M.length ∧ ch (aO b) s s'
section XX
variable {s s1 : aS} {b z i : Nat} {t : List Int32} {ns : List (List Int32)} {M : List NN}
set_option maxRecDepth 100000 in
theorem nm1 {n : Nat} (h : n < 100000) : Int32.ofNat n ≠ -1 := fun q => by
  rw [iEq, iOfNat (by omega)] at q
  have : (-1 : Int32).toInt = -1 := rfl
  omega
set_option maxRecDepth 100000 in
theorem x70 (h : KS s b t ns) (hT : TR s b z M) (x : Int32) : (M.length < 128 ∧ dm70 x s = some (1, s)) ∨ (M.length = 128 ∧ dm70 x s = some (0, wI s 106 8 x)) := by
  have hle := hT.2.1
  unfold dm70 dm71 dm70_7
  rw [(xtr h).1, if_pos (xtr (x := (none : Option Nat)) (f := fun _ => none) h).2, hT.1]
  by_cases c : M.length < 128
  · left
    rw [if_pos (show Int32.ofNat M.length < 128 from (nlt_iff (b := 128) (by omega) (by omega)).mpr c)]
    simp only [bu_some]
    rw [if_pos trivial, if_neg (by decide), if_pos (Or.inr trivial)]
    exact ⟨c, rfl⟩
  · right
    rw [if_neg (show ¬ Int32.ofNat M.length < 128 from fun q => c ((nlt_iff (b := 128) (by omega) (by omega)).mp q))]
    simp only [bu_some]
    rw [if_neg (by decide), if_pos trivial, nx_eq, if_pos (Or.inl trivial)]
    exact ⟨by omega, rfl⟩
set_option maxRecDepth 100000 in
theorem xk (h : KS s b t ns) : aK s b 3 := h.2.1.2.1
set_option maxRecDepth 100000 in
theorem xb (h : KS s b t ns) : b = 102 ∨ 149 ≤ b := h.2.1.2.2.1
set_option maxRecDepth 100000 in
/-- no room -/
theorem x106f (h : KS s b t ns) (hT : TR s b z M) (h8 : M.length = 128) (kd x : Int32) (hx : x ≠ -1) : Wr b s (dm106 kd x s) := by
  rcases x70 h hT x with ⟨c, -⟩ | ⟨-, e⟩
  · omega
  · unfold dm106
    rw [e]
    simp only [bv_some]
    rw [if_pos trivial]
    exact ⟨_, rfl, by rw [sI_wI, if_pos ⟨rfl, rfl⟩]; exact hx, (ch.refl _ s).wI (by unfold aO; omega)⟩
set_option maxRecDepth 100000 in
theorem x111f (h : KS s b t ns) (hT : TR s b z M) (h8 : M.length = 128) (kd v x : Int32) (hx : x ≠ -1) : Wr b s (dm111 kd v x s) := by
  rcases x70 h hT x with ⟨c, -⟩ | ⟨-, e⟩
  · omega
  · unfold dm111
    rw [e]
    simp only [bv_some]
    rw [if_pos trivial]
    exact ⟨_, rfl, by rw [sI_wI, if_pos ⟨rfl, rfl⟩]; exact hx, (ch.refl _ s).wI (by unfold aO; omega)⟩
set_option maxRecDepth 100000 in
/-- a new node with the letters that are held -/
theorem x106 {hd : List Int32} {q : Nat} (h : KS s b t ns) (hT : TR s b z M) (h8 : M.length < 128) (hh : HH s hd) (hz : z + hd.length ≤ i) (hi : i ≤ 256) (h7 : sI s 106 7 = Int32.ofNat i) (hw : sI s 106 8 = -1) (kd x : Int32) : Nw b s i M (q, plF kd 0, hd) 4 (dm106 kd x s) := by
  have hb := xb h
  rcases x70 h hT x with ⟨-, e⟩ | ⟨c, -⟩
  · have hT0 : TR s b z (M ++ []) := by rw [List.append_nil]; exact hT
    obtain ⟨s2, a1, a2, a3⟩ := x72 (q := q) (kd := kd) (c := 0) hT0 (by rw [List.append_nil]; exact h8)
    have K2 := h.of (b := b) (a3.mono fun a k z => by unfold AC; omega)
    have hh2 : HH s2 hd := ⟨hh.1.of a3 (by omega) (fun k => by omega), hh.2⟩
    obtain ⟨s3, c1, c2, c3⟩ := x107 (C := M) (n := (q, plF kd 0, [])) a2 hb (K2.2.1.2.2.2.1) K2.2.1.2.2.2.2 hh2 (by omega)
    unfold dm106
    rw [e]
    simp only [bv_some]
    rw [if_neg (by decide), (xtr h).1, if_pos (xk h)]
    unfold dm94
    simp only [bu_some]
    rw [(xtr h).1, if_pos (xk h), hT.1, a1]
    simp only [bu_some]
    rw [(xtr K2).1, if_pos (xk K2), c1]
    simp only [bu_some]
    unfold dm81
    simp only [bu_some, nx_eq]
    have g : ch (aO b) s s3 := (a3.mono fun a k z => by unfold aO; omega).trans (c3.mono fun a k z => by unfold aO; omega)
    have g2 : ch (fun a k => a = 106 ∧ (k = 9 ∨ k = 10)) s3 (wI (wI s3 106 10 (Int32.ofNat M.length)) 106 9 4) := ((ch.refl _ s3).wI (by omega)).wI (by omega)
    refine ⟨_, rfl, (c2.up hz).of g2 (by omega) (fun k => by omega) (by omega) (fun k => by omega), ?_, ?_, by rw [sI_wI, if_pos ⟨rfl, rfl⟩], by rw [sI_wI, if_neg (by omega), sI_wI, if_pos ⟨rfl, rfl⟩], g.trans (g2.mono fun a k z => by unfold aO; omega)⟩
    · rw [g2.i (by omega), c3.i (by omega), a3.i (by omega)]
      exact h7
    · rw [g2.i (by omega), c3.i (by omega), a3.i (by omega)]
      exact hw
  · omega
set_option maxRecDepth 100000 in
/-- a new node with a value -/
theorem x111 {q : Nat} (h : KS s b t ns) (hT : TR s b z M) (h8 : M.length < 128) (hz : z ≤ i) (h7 : sI s 106 7 = Int32.ofNat i) (hw : sI s 106 8 = -1) (kd v x : Int32) : Nw b s i M (q, setN (plF kd 0) 8 v, []) 4 (dm111 kd v x s) := by
  have hb := xb h
  rcases x70 h hT x with ⟨-, e⟩ | ⟨c, -⟩
  · have hT0 : TR s b z (M ++ []) := by rw [List.append_nil]; exact hT
    obtain ⟨s2, a1, a2, a3⟩ := x72 (q := q) (kd := kd) (c := 0) hT0 (by rw [List.append_nil]; exact h8)
    have K2 := h.of (b := b) (a3.mono fun a k z => by unfold AC; omega)
    have c1 : dm60 b (Int32.ofNat M.length) 8 v s2 = some (wI s2 (b + 1) (11 * M.length + 8) v) := x60 (w := 8) a2 (by omega)
    have c2 := a2.set (w := 8) (v := v) (by omega)
    have c3 : ch (fun a _ => a = b + 1) s2 (wI s2 (b + 1) (11 * M.length + 8) v) := (ch.refl _ s2).wI rfl
    unfold dm111
    rw [e]
    simp only [bv_some]
    rw [if_neg (by decide), (xtr h).1, if_pos (xk h)]
    unfold dm94
    simp only [bu_some]
    rw [(xtr h).1, if_pos (xk h), hT.1, a1]
    simp only [bu_some]
    rw [(xtr K2).1, if_pos (xk K2), c1]
    simp only [bu_some]
    unfold dm81
    simp only [bu_some, nx_eq]
    have g : ch (aO b) s (wI s2 (b + 1) (11 * M.length + 8) v) := (a3.mono fun a k z => by unfold aO; omega).trans (c3.mono fun a k z => by unfold aO; omega)
    have g2 : ch (fun a k => a = 106 ∧ (k = 9 ∨ k = 10)) (wI s2 (b + 1) (11 * M.length + 8) v) (wI (wI (wI s2 (b + 1) (11 * M.length + 8) v) 106 10 (Int32.ofNat M.length)) 106 9 4) := ((ch.refl _ _).wI (by omega)).wI (by omega)
    refine ⟨_, rfl, (c2.up hz).of g2 (by omega) (fun k => by omega) (by omega) (fun k => by omega), ?_, ?_, by rw [sI_wI, if_pos ⟨rfl, rfl⟩], by rw [sI_wI, if_neg (by omega), sI_wI, if_pos ⟨rfl, rfl⟩], g.trans (g2.mono fun a k z => by unfold aO; omega)⟩
    · rw [g2.i (by omega), c3.i (by omega), a3.i (by omega)]
      exact h7
    · rw [g2.i (by omega), c3.i (by omega), a3.i (by omega)]
      exact hw
  · omega
set_option maxRecDepth 100000 in
/-- a token runs on from another state -/
theorem Wr.bk {D : Option aS} (h : Wr b s1 D) (g : ch (aO b) s s1) : Wr b s D := by
  obtain ⟨s2, e1, e2, e3⟩ := h
  exact ⟨s2, e1, e2, g.trans e3⟩
set_option maxRecDepth 100000 in
theorem Nw.bk {D : Option aS} {n : NN} {w : Int32} (h : Nw b s1 z M n w D) (g : ch (aO b) s s1) : Nw b s z M n w D := by
  obtain ⟨s2, e1, e2, e3, e4, e5, e6, e7⟩ := h
  exact ⟨s2, e1, e2, e3, e4, e5, e6, g.trans e7⟩
set_option maxRecDepth 100000 in
theorem Wr.set (h7 : sI s 106 7 = Int32.ofNat i) (hi : i < 100000) : Wr b s (some (wI s 106 8 (sI s 106 7))) := ⟨_, rfl, by rw [sI_wI, if_pos ⟨rfl, rfl⟩, h7]; exact nm1 hi, (ch.refl _ s).wI (by unfold aO; omega)⟩
/-- how a token ends: wrong, or with a node -/
def Tk (b : Nat) (s : aS) (M : List NN) (X : Prop) (z : Nat) (n : NN) (D : Option aS) : Prop := ((¬ X ∨ M.length = 128) ∧ Wr b s D) ∨ (X ∧ M.length < 128 ∧ Nw b s z M n 4 D)
set_option maxRecDepth 100000 in
theorem kp {hd : List Int32} {q : Nat} (h : KS s b t ns) (hT : TR s b z M) (hh : HH s hd) (hz : z + hd.length ≤ i) (hi : i ≤ 256) (h7 : sI s 106 7 = Int32.ofNat i) (hw : sI s 106 8 = -1) (kd : Int32) {f : Nat} (hf : f < 100000) {X : Prop} (hX : X) : Tk b s M X i (q, plF kd 0, hd) (dm106 kd (Int32.ofNat f) s) := by
  have := hT.2.1
  by_cases c : M.length = 128
  · exact Or.inl ⟨Or.inr c, x106f h hT c kd _ (nm1 hf)⟩
  · exact Or.inr ⟨hX, by omega, x106 h hT (by omega) hh hz hi h7 hw kd _⟩
set_option maxRecDepth 100000 in
theorem kv {q : Nat} (h : KS s b t ns) (hT : TR s b z M) (hz : z ≤ i) (h7 : sI s 106 7 = Int32.ofNat i) (hw : sI s 106 8 = -1) (kd v : Int32) {f : Nat} (hf : f < 100000) {X : Prop} (hX : X) : Tk b s M X i (q, setN (plF kd 0) 8 v, []) (dm111 kd v (Int32.ofNat f) s) := by
  have := hT.2.1
  by_cases c : M.length = 128
  · exact Or.inl ⟨Or.inr c, x111f h hT c kd v _ (nm1 hf)⟩
  · exact Or.inr ⟨hX, by omega, x111 h hT (by omega) hz h7 hw kd v _⟩
set_option maxRecDepth 100000 in
theorem Tk.bk {X : Prop} {n : NN} {D : Option aS} (h : Tk b s1 M X z n D) (g : ch (aO b) s s1) : Tk b s M X z n D := by
  rcases h with ⟨h1, h2⟩ | ⟨h1, h2, h3⟩
  · exact Or.inl ⟨h1, h2.bk g⟩
  · exact Or.inr ⟨h1, h2, h3.bk g⟩
set_option maxRecDepth 100000 in
theorem Tk.bx {X : Prop} {n : NN} {D : Option aS} (h : Tk b s M X z n D) : Tk b s M X z n (bu D fun s4 => some s4) := by
  rcases h with ⟨h1, s2, e1, e2⟩ | ⟨h1, h2, s2, e1, e2⟩
  · rw [e1]
    exact Or.inl ⟨h1, s2, rfl, e2⟩
  · rw [e1]
    exact Or.inr ⟨h1, h2, s2, rfl, e2⟩
set_option maxRecDepth 100000 in
theorem a7O {a k : Nat} (h : a7 a k) : aO b a k := by unfold a7 at h; unfold aO; omega
set_option maxRecDepth 100000 in
theorem aHO {a k : Nat} (h : aH a k) : aO b a k := by unfold aH at h; unfold aO; omega
set_option maxRecDepth 100000 in
theorem aQO {a k : Nat} (h : aQ a k) : aO b a k := by unfold aQ at h; unfold aO; omega
set_option maxRecDepth 100000 in
theorem trO {A : Nat → Nat → Prop} (hT : TR s b z M) (hb : b = 102 ∨ 149 ≤ b) (g : ch A s s1) (hA : ∀ a k, A a k → 106 ≤ a ∧ a ≤ 109) : TR s1 b z M := hT.of g (fun q => by have := hA _ _ q; omega) (fun k q => by have := hA _ _ q; omega) (fun q => by have := hA _ _ q; omega) (fun k q => by have := hA _ _ q; omega)
set_option maxRecDepth 100000 in
/-- a text -/
theorem x104 {q : Nat} (h : KS s b t ns) (hT : TR s b i M) (hi : i < t.length) (h7 : sI s 106 7 = Int32.ofNat i) (hw : sI s 106 8 = -1) : (∃ u e, qtA t 34 i = some (u, e) ∧ e ≤ t.length ∧ Tk b s M True e (q, plF 1 0, u) (dm104 s)) ∨ (qtA t 34 i = none ∧ Wr b s (dm104 s)) := by
  have hl := h.1.2.1
  have hb := xb h
  unfold dm104
  rcases x105 (q := 34) (by decide) (by decide) h h7 hi with ⟨e1, s2, e, e2, e4, e5, e3⟩ | ⟨u, e, s2, e1, e2, e3, e4, e5, e6, e7⟩
  · right
    refine ⟨e1, ?_⟩
    rw [e2]
    simp only [bv_some]
    rw [if_pos trivial, nx_eq]
    exact (Wr.set e4 (by omega)).bk (e3.mono fun a k z => aQO z)
  · left
    refine ⟨u, e, e1, e5, ?_⟩
    rw [e2]
    simp only [bv_some]
    rw [if_neg (by decide), h7]
    have K2 := h.of (b := b) (e7.mono fun a k z => aQC z)
    exact ((kp K2 (trO hT hb e7 (fun a k z => by unfold aQ at z; omega)) e3 (by omega) (by omega) e4 ((e7.i (by unfold aQ; omega)).trans hw) 1 (by omega) trivial).bk (e7.mono fun a k z => aQO z)).bx
set_option maxRecDepth 100000 in
theorem ndM_1 {t : List Int32} {i m : Nat} (hl : t.length ≤ m) : ndM t i m = nd1 t i := by
  have := nd1_b t i
  unfold ndM
  rw [if_pos (by omega)]
set_option maxRecDepth 100000 in
theorem ndM_le {t : List Int32} {i m : Nat} : ndM t i m ≤ nd1 t i ∧ ndM t i m ≤ m := by
  unfold ndM
  split <;> omega
set_option maxRecDepth 100000 in
/-- a number -/
theorem x120 {q : Nat} (h : KS s b t ns) (hT : TR s b i M) (hi : i < t.length) (h7 : sI s 106 7 = Int32.ofNat i) (hw : sI s 106 8 = -1) (hc : isD (t.getD i 0) ∨ t.getD i 0 = 46) : Tk b s M (¬ (lexN t i).1 = 0) (lexN t i).2 (q, plF 0 0, (sl t i (lexN t i).2).map gr) (dm120 s) := by
  have hl := h.1.2.1
  have hb := xb h
  have hE := nmE_b (t := t) (i := i) (by omega)
  have hnb := nm_b hi hc
  have key : ∀ s2 e, KS s2 b t ns → TR s2 b i M → sI s2 106 7 = Int32.ofNat e → sI s2 106 8 = -1 → i ≤ e → e ≤ t.length → ch (aO b) s s2 → ∀ X : Prop, X → Tk b s M X e (q, plF 0 0, (sl t i e).map gr) (dm120_78 (Int32.ofNat i) 1 s2) := by
    intro s2 e K2 T2 f7 fw he1 he2 g X hX
    obtain ⟨s3, a1, a2, a3⟩ := x122 K2 he1 he2
    unfold dm120_78
    rw [if_neg (by decide), f7, a1]
    simp only [bu_some]
    have K3 := K2.of (b := b) (a3.mono fun a k z => aHC z)
    have hlen : ((sl t i e).map gr).length = e - i := by
      unfold sl
      rw [List.length_map, List.length_take, List.length_drop]
      omega
    exact ((kp K3 (trO T2 hb a3 (fun a k z => by unfold aH at z; omega)) a2 (by omega) (by omega) ((a3.i (by unfold aH; omega)).trans f7) ((a3.i (by unfold aH; omega)).trans fw) 0 (by omega) hX).bk (g.trans (a3.mono fun a k z => aHO z))).bx
  have bad : ∀ s2 e, sI s2 106 7 = Int32.ofNat e → e ≤ t.length → ch (aO b) s s2 → Wr b s (dm120_78 (Int32.ofNat i) 0 s2) := by
    intro s2 e f7 he g
    unfold dm120_78
    rw [if_pos rfl, nx_eq]
    exact (Wr.set f7 (by omega)).bk g
  -- behind the digits, at e, with c digits
  have tail : ∀ s2 c, KS s2 b t ns → TR s2 b i M → sI s2 106 7 = Int32.ofNat (nmE t i) → sI s2 106 8 = -1 → ch (aO b) s s2 → c ≤ 1000 → nmC t i = c → Tk b s M (¬ (lexN t i).1 = 0) (lexN t i).2 (q, plF 0 0, (sl t i (lexN t i).2).map gr) (dm120_26 (Int32.ofNat i) (Int32.ofNat c) s2) := by
    intro s2 c K2 T2 f7 fw g hc9 hC
    unfold dm120_26
    unfold lexN
    rw [hC]
    by_cases c0 : c = 0
    · subst c0
      rw [if_pos rfl, if_pos (show Int32.ofNat 0 ≤ 0 by decide)]
      unfold dm120_31
      rw [if_pos rfl]
      exact Or.inl ⟨Or.inl (fun z => z rfl), bad s2 _ f7 hE.2 g⟩
    · rw [if_neg c0, if_neg (show ¬ Int32.ofNat c ≤ 0 from fun z => by have := (nle_iff (b := 0) (by omega) (by omega)).mp z; omega)]
      unfold dm120_31
      rw [if_neg (show ¬ (1 : Int32) = 0 by decide), f7, x34 K2 (by omega)]
      simp only [bu_some, d35]
      by_cases cE : gr (t.getD (nmE t i) (-1)) = 69
      · have cE0 : gr (t.getD (nmE t i) 0) = 69 := (gd_p (p := fun x => gr x = 69) (by decide) (by decide)).mp cE
        have hEl : nmE t i < t.length := in_of (p := fun x => gr x = 69) (d := -1) (by decide) cE
        rw [if_pos cE, if_pos cE0, ofNat_succ (by omega), nx_eq]
        have g3 : ch a7 s2 (wI s2 106 7 (Int32.ofNat (nmE t i + 1))) := (ch.refl _ s2).wI ⟨rfl, rfl⟩
        have K3 := K2.of (b := b) (g3.mono fun a k z => a7C z)
        have T3 := trO T2 hb g3 (fun a k z => by unfold a7 at z; omega)
        have f73 : sI (wI s2 106 7 (Int32.ofNat (nmE t i + 1))) 106 7 = Int32.ofNat (nmE t i + 1) := by rw [sI_wI, if_pos ⟨rfl, rfl⟩]
        have fw3 : sI (wI s2 106 7 (Int32.ofNat (nmE t i + 1))) 106 8 = -1 := (g3.i (by unfold a7; omega)).trans fw
        rw [f73, x34 K3 (by omega)]
        simp only [bu_some]
        have f68 : ∀ y, y ≤ 1 → nmS t (nmE t i) = nmE t i + 1 + y → nmE t i + 1 + y ≤ t.length → Tk b s M (¬ nd3 t (nmS t (nmE t i)) 0 = 0) (nmS t (nmE t i) + nd3 t (nmS t (nmE t i)) 0) (q, plF 0 0, (sl t i (nmS t (nmE t i) + nd3 t (nmS t (nmE t i)) 0)).map gr) (dm120_68 (Int32.ofNat i) (Int32.ofNat (nmE t i + 1)) (Int32.ofNat y) (wI s2 106 7 (Int32.ofNat (nmE t i + 1)))) := by
          intro y hy hS hSl
          unfold dm120_68
          rw [iSum (by omega) (by omega), ← hS, nx_eq]
          have g4 : ch a7 (wI s2 106 7 (Int32.ofNat (nmE t i + 1))) (wI (wI s2 106 7 (Int32.ofNat (nmE t i + 1))) 106 7 (Int32.ofNat (nmS t (nmE t i)))) := (ch.refl _ _).wI ⟨rfl, rfl⟩
          have K4 := K3.of (b := b) (g4.mono fun a k z => a7C z)
          obtain ⟨s5, a1, a2, a3⟩ := x121 (i := nmS t (nmE t i)) (mx := 3) K4 (by omega) (by omega) (by rw [sI_wI, if_pos ⟨rfl, rfl⟩])
          have a1 : dm121 3 (wI (wI s2 106 7 (Int32.ofNat (nmE t i + 1))) 106 7 (Int32.ofNat (nmS t (nmE t i)))) = some (Int32.ofNat (ndM t (nmS t (nmE t i)) 3), s5) := a1
          rw [a1]
          simp only [bv_some]
          have en : nd3 t (nmS t (nmE t i)) 0 = ndM t (nmS t (nmE t i)) 3 := rfl
          rw [en]
          have hnd := ndM_le (t := t) (i := nmS t (nmE t i)) (m := 3)
          have hnb2 := nd1_b t (nmS t (nmE t i))
          have gs : ch (aO b) s s5 := (g.trans (g3.mono fun a k z => a7O z)).trans ((g4.trans a3).mono fun a k z => a7O z)
          have K5 := K4.of (b := b) (a3.mono fun a k z => a7C z)
          have T5 := trO (trO T3 hb g4 (fun a k z => by unfold a7 at z; omega)) hb a3 (fun a k z => by unfold a7 at z; omega)
          unfold dm120_77
          by_cases c3 : ndM t (nmS t (nmE t i)) 3 = 0
          · rw [c3, if_pos (by decide)]
            rw [c3] at a2
            exact Or.inl ⟨Or.inl (fun z => z rfl), bad s5 _ a2 (by omega) gs⟩
          · rw [if_neg (fun z => by have := (nle_iff (b := 0) (by omega) (by omega)).mp z; omega)]
            exact key s5 _ K5 T5 a2 (((a3.i (by unfold a7; omega)).trans (g4.i (by unfold a7; omega))).trans fw3) (by omega) (by omega) gs _ c3
        by_cases s1 : t.getD (nmE t i + 1) (-1) = 43
        · rw [if_pos s1]
          have hin : nmE t i + 1 < t.length := in_of (p := fun x => x = 43) (d := -1) (by decide) s1
          unfold dm120_65
          refine f68 1 (by omega) ?_ (by omega)
          unfold nmS
          rw [if_neg (fun z => b01_ne.mp z (show sgP (t.getD (nmE t i + 1) 0) from Or.inl ((gd_eq (by decide) (by decide)).mp s1)))]
        · rw [if_neg s1]
          by_cases s2 : t.getD (nmE t i + 1) (-1) = 45
          · rw [if_pos s2]
            have hin : nmE t i + 1 < t.length := in_of (p := fun x => x = 45) (d := -1) (by decide) s2
            unfold dm120_65
            refine f68 1 (by omega) ?_ (by omega)
            unfold nmS
            rw [if_neg (fun z => b01_ne.mp z (show sgP (t.getD (nmE t i + 1) 0) from Or.inr ((gd_eq (by decide) (by decide)).mp s2)))]
          · rw [if_neg s2]
            refine f68 0 (by omega) ?_ (by omega)
            unfold nmS
            rw [if_pos (b01_ne.mpr (show ¬ sgP (t.getD (nmE t i + 1) 0) from fun z => z.elim (fun z => s1 ((gd_eq (by decide) (by decide)).mpr z)) (fun z => s2 ((gd_eq (by decide) (by decide)).mpr z))))]
      · have cE0 : ¬ gr (t.getD (nmE t i) 0) = 69 := fun z => cE ((gd_p (p := fun x => gr x = 69) (by decide) (by decide)).mpr z)
        rw [if_neg cE, if_neg cE0]
        exact key s2 _ K2 T2 f7 fw hE.1 hE.2 g _ (fun z => absurd (show (1 : Nat) = 0 from z) (by decide))
  obtain ⟨s2, a1, a2, a3⟩ := x121 (mx := 256) h (by omega) (by omega) h7
  have a1 : dm121 256 s = some (Int32.ofNat (ndM t i 256), s2) := a1
  rw [ndM_1 hl] at a1 a2
  have hn1 := nd1_b t i
  have K2 := h.of (b := b) (a3.mono fun a k z => a7C z)
  have T2 := trO hT hb a3 (fun a k z => by unfold a7 at z; omega)
  have fw2 : sI s2 106 8 = -1 := (a3.i (by unfold a7; omega)).trans hw
  unfold dm120
  rw [a1]
  simp only [bv_some]
  rw [a2, x34 K2 (by omega), h7]
  simp only [bu_some]
  by_cases cd : t.getD (i + nd1 t i) (-1) = 46
  · have cd0 : t.getD (i + nd1 t i) 0 = 46 := (gd_eq (by decide) (by decide)).mp cd
    have hin : i + nd1 t i < t.length := in_of (p := fun x => x = 46) (d := -1) (by decide) cd
    rw [if_pos cd, ofNat_succ (by omega), nx_eq]
    have g3 : ch a7 s2 (wI s2 106 7 (Int32.ofNat (i + nd1 t i + 1))) := (ch.refl _ s2).wI ⟨rfl, rfl⟩
    have K3 := K2.of (b := b) (g3.mono fun a k z => a7C z)
    obtain ⟨s4, b1, b2, b3⟩ := x121 (i := i + nd1 t i + 1) (mx := 256) K3 (by omega) (by omega) (by rw [sI_wI, if_pos ⟨rfl, rfl⟩])
    have b1 : dm121 256 (wI s2 106 7 (Int32.ofNat (i + nd1 t i + 1))) = some (Int32.ofNat (ndM t (i + nd1 t i + 1) 256), s4) := b1
    rw [ndM_1 hl] at b1 b2
    have hn2 := nd1_b t (i + nd1 t i + 1)
    rw [b1]
    simp only [bv_some]
    rw [iSum (by omega) (by omega)]
    refine tail s4 _ (K3.of (b := b) (b3.mono fun a k z => a7C z)) (trO (trO T2 hb g3 (fun a k z => by unfold a7 at z; omega)) hb b3 (fun a k z => by unfold a7 at z; omega)) ?_ (((b3.i (by unfold a7; omega)).trans (g3.i (by unfold a7; omega))).trans fw2) (((a3.trans g3).trans b3).mono fun a k z => a7O z) (by omega) ?_
    · unfold nmE
      rw [if_pos cd0]
      exact b2
    · unfold nmC
      rw [if_pos cd0]
  · have cd0 : ¬ t.getD (i + nd1 t i) 0 = 46 := fun z => cd ((gd_eq (by decide) (by decide)).mpr z)
    rw [if_neg cd]
    refine tail s2 _ K2 T2 ?_ fw2 (a3.mono fun a k z => a7O z) (by omega) ?_
    · unfold nmE
      rw [if_neg cd0]
      exact a2
    · unfold nmC
      rw [if_neg cd0]
end XX
end
section
/-! the reader of FormulaTrees, exactly: errors -/
def mE (t : List Int32) (o e m : Nat) : Prop := m ≤ (erN e).length ∧ spQ t (erN e) o m 0
set_option maxRecDepth 100000 in
theorem mE_iff {t : List Int32} {o e m : Nat} (ho : okT t) (he : 1 ≤ e ∧ e < 8) (hm : 1 ≤ m) : mE t o e m ↔ sameE t o (m - 1) e := by
  constructor
  · rintro ⟨h1, h2⟩
    have hl := sp_in h2 hm h1 (erN_p e (List.mem_range.mpr he.2))
    refine ⟨by omega, fun q hq => ?_⟩
    have := h2 q (Nat.zero_le _) (by omega)
    rw [gd_in (show o + q < t.length by omega)] at this
    exact this.symm
  · rintro ⟨h1, h2⟩
    have hlen : m ≤ (erN e).length := by
      refine Classical.byContradiction fun z => ?_
      have := h2 (erN e).length (by omega)
      rw [getD_out (Nat.le_refl _), getD_in (show o + (erN e).length < t.length by omega)] at this
      exact gr_pos (ho _ (List.getElem_mem _)) this.symm
    refine ⟨hlen, fun k _ hk => ?_⟩
    rw [gd_in (show o + k < t.length by omega)]
    exact (h2 k (by omega)).symm
set_option maxRecDepth 100000 in
theorem fdE_c {t : List Int32} {f k : Nat} : ∀ (m e : Nat) (x : Int32), (fdE t f k m e x = x ∧ ∀ e', e ≤ e' → e' < e + m → ¬ (sameE t f k e' ∧ (erN e').getD (k + 1) 0 = 0)) ∨ ∃ e', e ≤ e' ∧ e' < e + m ∧ sameE t f k e' ∧ (erN e').getD (k + 1) 0 = 0 ∧ fdE t f k m e x = Int32.ofNat e'
  | 0, e, x => Or.inl ⟨rfl, fun e' h1 h2 => by omega⟩
  | m + 1, e, x => by
    rw [fdE]
    by_cases c : sameE t f k e
    · rw [if_neg (fun q => b01_ne.mp q c)]
      by_cases c2 : (erN e).getD (k + 1) 0 = 0
      · rw [if_pos c2]
        rcases fdE_c (t := t) (f := f) (k := k) m (e + 1) (Int32.ofNat e) with ⟨h1, h2⟩ | ⟨e', h1, h2, h3⟩
        · exact Or.inr ⟨e, Nat.le_refl _, by omega, c, c2, h1⟩
        · exact Or.inr ⟨e', by omega, by omega, h3⟩
      · rw [if_neg c2]
        rcases fdE_c (t := t) (f := f) (k := k) m (e + 1) x with ⟨h1, h2⟩ | ⟨e', h1, h2, h3⟩
        · refine Or.inl ⟨h1, fun e' q1 q2 z => ?_⟩
          by_cases e0 : e' = e
          · subst e0
            exact c2 z.2
          · exact h2 e' (by omega) (by omega) z
        · exact Or.inr ⟨e', by omega, by omega, h3⟩
    · rw [if_pos (b01_ne.mpr c)]
      rcases fdE_c (t := t) (f := f) (k := k) m (e + 1) x with ⟨h1, h2⟩ | ⟨e', h1, h2, h3⟩
      · refine Or.inl ⟨h1, fun e' q1 q2 z => ?_⟩
        by_cases e0 : e' = e
        · subst e0
          exact c z.1
        · exact h2 e' (by omega) (by omega) z
      · exact Or.inr ⟨e', by omega, by omega, h3⟩
set_option maxRecDepth 100000 in
theorem er_u : ∀ e ∈ List.range 8, ∀ e' ∈ List.range 8, 1 ≤ e → 1 ≤ e' → (∀ q, q < (erN e').length → (erN e).getD q 0 = (erN e').getD q 0) → e = e' := by decide
set_option maxRecDepth 100000 in
/-- an error that ends here is the one that was found -/
theorem er_1 {t : List Int32} {f k r e : Nat} (hr : 1 ≤ r ∧ r < 8) (he : 1 ≤ e ∧ e < 8) (h1 : sameE t f k r) (h2 : sameE t f k e) (h0 : (erN e).getD (k + 1) 0 = 0) (hk : k + 1 ≤ (erN e).length) : r = e := by
  have hl : (erN e).length = k + 1 := by
    refine Classical.byContradiction fun z => ?_
    have hp : ∀ e ∈ List.range 8, ∀ x ∈ erN e, x ≠ 0 := by decide
    rw [getD_in (show k + 1 < (erN e).length by omega)] at h0
    exact hp e (List.mem_range.mpr he.2) _ (List.getElem_mem _) h0
  refine er_u r (List.mem_range.mpr hr.2) e (List.mem_range.mpr he.2) hr.1 he.1 fun q hq => ?_
  rw [h1.2 q (by omega), h2.2 q (by omega)]
section XX
variable {s s1 : aS} {b z i : Nat} {t : List Int32} {ns : List (List Int32)} {M : List NN}
set_option maxRecDepth 100000 in
theorem x49 {e m o : Nat} (h : KS s b t ns) (he : 1 ≤ e ∧ e < 8) (hm : 1 ≤ m ∧ m ≤ 7) (ho : o ≤ 300) : ∃ v, dm49 79 (19 + 2 * e) (Int32.ofNat m) (Int32.ofNat o) s = some (v, s) ∧ (v = 0 ↔ ¬ mE t o e m) := by
  have hl := h.1.2.1
  have hST := (h.2.2.2.2.2.2 e he.1 he.2).1
  have hlen := erN_l e (List.mem_range.mpr he.2)
  by_cases c : m ≤ (erN e).length
  · refine ⟨b01 (spQ t (erN e) o m 0), d49 h.1.1 (by show t.length ≤ (sT s 80).2; rw [h.1.2.2.2]; exact hl) (by omega) hST (by omega) c (by omega) (erN_p e (List.mem_range.mpr he.2)), ?_⟩
    rw [b01_ne]
    exact ⟨fun q z => q z.2, fun q z => q ⟨c, z⟩⟩
  · refine ⟨0, ?_, ⟨fun _ z => c z.1, fun _ => rfl⟩⟩
    unfold dm49 dm49_7
    rw [d254 hST (by omega)]
    simp only [bu_some]
    rw [if_pos ((nlt_iff (by omega) (by omega)).mpr (by omega)), dm49_10, if_neg (fun q => by have := (nle_iff (b := 0) (by omega) (by omega)).mp q; omega), if_pos rfl, if_pos (Or.inl rfl)]
set_option maxRecDepth 100000 in
theorem x109 {m o : Nat} (h : KS s b t ns) (hm : 1 ≤ m ∧ m ≤ 7) (ho : o ≤ 300) : ∃ e, dm109 (Int32.ofNat o) (Int32.ofNat m) s = some (Int32.ofNat e, s) ∧ ((e = 0 ∧ ∀ e', 1 ≤ e' → e' < 8 → ¬ mE t o e' m) ∨ ((1 ≤ e ∧ e < 8) ∧ mE t o e m)) := by
  have loop : ∀ (q e n : Nat), e + q = 8 → 1 ≤ e → q < n → (∀ e', 1 ≤ e' → e' < e → ¬ mE t o e' m) → ∃ r, dm109_2 n (Int32.ofNat o) (Int32.ofNat m) (Int32.ofNat e) s = some (Int32.ofNat r, s) ∧ ((r = 0 ∧ ∀ e', 1 ≤ e' → e' < 8 → ¬ mE t o e' m) ∨ ((1 ≤ r ∧ r < 8) ∧ mE t o r m)) := by
    intro q
    induction q with
    | zero =>
      intro e n h1 h2 h3 h4
      obtain ⟨n, rfl⟩ : ∃ q, n = q + 1 := ⟨n - 1, by omega⟩
      have : e = 8 := by omega
      subst this
      rw [dm109_2, if_pos (by decide)]
      exact ⟨0, rfl, Or.inl ⟨rfl, h4⟩⟩
    | succ q ih =>
      intro e n h1 h2 h3 h4
      obtain ⟨n, rfl⟩ : ∃ q, n = q + 1 := ⟨n - 1, by omega⟩
      have he : 1 ≤ e ∧ e < 8 := by omega
      rw [dm109_2, if_neg (fun z => by have := (nlt_iff (a := 7) (by omega) (by omega)).mp z; omega), k110 he]
      simp only [bu_some]
      show ∃ r, (if aK s (19 + 2 * e) 70 then bv (dm49 79 (19 + 2 * e) (Int32.ofNat m) (Int32.ofNat o) s) fun r11 s10 => if r11 = 0 then dm109_2 n (Int32.ofNat o) (Int32.ofNat m) (Int32.ofNat e + 1) s10 else some (Int32.ofNat e, s10) else none) = some (Int32.ofNat r, s) ∧ _
      rw [if_pos (h.2.2.2.2.2.2 e he.1 he.2).2]
      obtain ⟨v, e1, e2⟩ := x49 h he hm ho
      rw [e1]
      simp only [bv_some]
      by_cases c : v = 0
      · rw [if_pos c, ofNat_succ (by omega)]
        refine ih (e + 1) n (by omega) (by omega) (by omega) fun e' q1 q2 => ?_
        by_cases e0 : e' = e
        · subst e0
          exact e2.mp c
        · exact h4 e' q1 (by omega)
      · rw [if_neg c]
        exact ⟨e, rfl, Or.inr ⟨he, Classical.byContradiction fun z => c (e2.mpr z)⟩⟩
  exact loop 7 1 5000 (by omega) (by omega) (by omega) (fun e' q1 q2 => by omega)
set_option maxRecDepth 100000 in
/-- an error -/
theorem x108 {q : Nat} (h : KS s b t ns) (hT : TR s b i M) (hi : i < t.length) (h7 : sI s 106 7 = Int32.ofNat i) (hw : sI s 106 8 = -1) : Tk b s M (¬ (erG t i 8 0).1 = 0) (erG t i 8 0).2 (q, setN (plF 2 0) 8 (erG t i 8 0).1, []) (dm108 s) := by
  have hl := h.1.2.1
  have hok := h.1.2.2.1
  have hb := xb h
  have f38 : ∀ e, (1 ≤ e ∧ e < 8) → i + (erN e).length ≤ t.length → ∀ X : Prop, X → Tk b s M X (i + (erN e).length) (q, setN (plF 2 0) 8 (Int32.ofNat e), []) (dm108_38 (Int32.ofNat i) (Int32.ofNat e) s) := by
    intro e he hle X hX
    unfold dm108_38
    rw [k110 he]
    simp only [bu_some]
    show Tk b s M X (i + (erN e).length) (q, setN (plF 2 0) 8 (Int32.ofNat e), []) (if aK s (19 + 2 * e) 70 then bu (dm254 (19 + 2 * e) s) fun r9 => nx (wI s 106 7 (Int32.ofNat i + r9)) fun s10 => bu (dm111 2 (Int32.ofNat e) (Int32.ofNat i) s10) fun s16 => some s16 else none)
    rw [if_pos (h.2.2.2.2.2.2 e he.1 he.2).2, d254 (h.2.2.2.2.2.2 e he.1 he.2).1 (by omega)]
    simp only [bu_some, nx_eq]
    rw [iSum (by omega) (by omega)]
    have g : ch a7 s (wI s 106 7 (Int32.ofNat (i + (erN e).length))) := (ch.refl _ s).wI ⟨rfl, rfl⟩
    exact ((kv (h.of (b := b) (g.mono fun a k z => a7C z)) (trO hT hb g (fun a k z => by unfold a7 at z; omega)) (by omega) (by rw [sI_wI, if_pos ⟨rfl, rfl⟩]) ((g.i (by unfold a7; omega)).trans hw) 2 (Int32.ofNat e) (by omega) hX).bk (g.mono fun a k z => a7O z)).bx
  have loop : ∀ (m k n : Nat), k + m = 8 → k ≤ 6 → m + 1 < n → Tk b s M (¬ (erG t i m k).1 = 0) (erG t i m k).2 (q, setN (plF 2 0) 8 (erG t i m k).1, []) (dm108_7 n (Int32.ofNat i) 0 (Int32.ofNat (k + 1)) s) := by
    intro m
    induction m with
    | zero => intro k n h1 h2; omega
    | succ m ih =>
      intro k n h1 h2 h3
      obtain ⟨n, rfl⟩ : ∃ q, n = q + 2 := ⟨n - 2, by omega⟩
      rw [dm108_7, if_neg (fun z => by have := (nlt_iff (a := 7) (by omega) (by omega)).mp z; omega), if_pos rfl]
      obtain ⟨r, e1, e2⟩ := x109 (m := k + 1) (o := i) h (by omega) (by omega)
      rw [e1]
      simp only [bv_some]
      rcases e2 with ⟨r0, e2⟩ | ⟨hr, e2⟩
      · subst r0
        rw [if_pos (show Int32.ofNat 0 = 0 from rfl), nx_eq]
        have ns : ¬ someE t i k := fun ⟨e, q1, q2, q3⟩ => e2 e q1 q2 ((mE_iff hok ⟨q1, q2⟩ (by omega)).mpr q3)
        have ee : erG t i (m + 1) k = (0, i + k) := by rw [erG, if_pos (b01_ne.mpr ns)]
        rw [ee]
        refine Or.inl ⟨Or.inl (fun z => z rfl), _, rfl, ?_, (ch.refl _ s).wI (by unfold aO; omega)⟩
        rw [sI_wI, if_pos ⟨rfl, rfl⟩, iSum (by omega) (by omega), ofNat_sub1 (by omega) (by omega)]
        exact nm1 (by omega)
      · have hlen := erN_l r (List.mem_range.mpr hr.2)
        have hs := (mE_iff hok hr (by omega)).mp e2
        rw [Nat.add_sub_cancel] at hs
        have se : someE t i k := ⟨r, hr.1, hr.2, hs⟩
        have e3 := e2.1
        rw [if_neg (show ¬ Int32.ofNat r = 0 from fun z => by have := (neq_iff (b := 0) (by omega) (by omega)).mp z; omega), k110 hr]
        simp only [bu_some]
        show Tk b s M (¬ (erG t i (m + 1) k).1 = 0) (erG t i (m + 1) k).2 (q, setN (plF 2 0) 8 (erG t i (m + 1) k).1, []) (if aK s (19 + 2 * r) 70 then bu (dm254 (19 + 2 * r) s) fun r19 => if r19 = Int32.ofNat (k + 1) then dm108_35 (dm108_7 (n + 1)) (Int32.ofNat i) (Int32.ofNat (k + 1)) (Int32.ofNat r) s else dm108_35 (dm108_7 (n + 1)) (Int32.ofNat i) (Int32.ofNat (k + 1)) 0 s else none)
        rw [if_pos (h.2.2.2.2.2.2 r hr.1 hr.2).2, d254 (h.2.2.2.2.2.2 r hr.1 hr.2).1 (by omega)]
        simp only [bu_some]
        unfold dm108_35
        rw [ofNat_succ (by omega)]
        by_cases c2 : (erN r).length = k + 1
        · rw [if_pos (by rw [c2])]
          have h0 : (erN r).getD (k + 1) 0 = 0 := getD_out (by omega)
          have ef : fdE t i k 7 1 0 = Int32.ofNat r := by
            rcases fdE_c (t := t) (f := i) (k := k) 7 1 0 with ⟨-, q2⟩ | ⟨e', q1, q2, q3, q4, q5⟩
            · exact absurd ⟨hs, h0⟩ (q2 r hr.1 (by omega))
            · have hk' : k + 1 ≤ (erN e').length := ((mE_iff (m := k + 1) hok ⟨q1, by omega⟩ (by omega)).mpr (by rw [Nat.add_sub_cancel]; exact q3)).1
              rw [q5, er_1 hr ⟨q1, by omega⟩ hs q3 q4 hk']
          have nz : ¬ Int32.ofNat r = 0 := fun z => by have := (neq_iff (b := 0) (by omega) (by omega)).mp z; omega
          have ee : erG t i (m + 1) k = (Int32.ofNat r, i + k + 1) := by rw [erG, if_neg (fun q => b01_ne.mp q se), ef, if_neg nz]
          have hin := hs.1
          have := f38 r hr (by omega) (¬ Int32.ofNat r = 0) nz
          rw [c2] at this
          rw [ee, dm108_7]
          split
          · exact this
          · exact this
        · rw [if_neg (fun z => c2 ((neq_iff (by omega) (by omega)).mp z))]
          have ef : fdE t i k 7 1 0 = 0 := by
            rcases fdE_c (t := t) (f := i) (k := k) 7 1 0 with ⟨q1, -⟩ | ⟨e', q1, q2, q3, q4, q5⟩
            · exact q1
            · exfalso
              have hk' : k + 1 ≤ (erN e').length := ((mE_iff (m := k + 1) hok ⟨q1, by omega⟩ (by omega)).mpr (by rw [Nat.add_sub_cancel]; exact q3)).1
              have := er_1 hr ⟨q1, by omega⟩ hs q3 q4 hk'
              subst this
              have hp : ∀ e ∈ List.range 8, ∀ x ∈ erN e, x ≠ 0 := by decide
              rw [getD_in (show k + 1 < (erN r).length by omega)] at q4
              exact hp r (List.mem_range.mpr hr.2) _ (List.getElem_mem _) q4
          have ee : erG t i (m + 1) k = erG t i m (k + 1) := by rw [erG, if_neg (fun q => b01_ne.mp q se), if_pos ef]
          rw [ee]
          exact ih (k + 1) (n + 1) (by omega) (by omega) (by omega)
  unfold dm108
  rw [h7]
  exact loop 8 0 5000 (by omega) (by omega) (by omega)
end XX
end
section
/-! the reader of FormulaTrees, exactly: cells -/
def bad (c : Int32) : Prop := gW c ∨ c = 40 ∨ c = 33
set_option maxRecDepth 100000 in
theorem gW_m : ¬ gW (-1) := by unfold gW isL isD; decide
set_option maxRecDepth 100000 in
theorem gW_0 : ¬ gW 0 := by unfold gW isL isD; decide
set_option maxRecDepth 100000 in
theorem bad_m : ¬ bad (-1) := by unfold bad gW isL isD; decide
set_option maxRecDepth 100000 in
theorem bad_0 : ¬ bad 0 := by unfold bad gW isL isD; decide
set_option maxRecDepth 100000 in
theorem L_D {x : Int32} (h : isL x) : ¬ isD x := by unfold isL at h; unfold isD; omega
section XX
variable {s s1 : aS} {b z i : Nat} {t : List Int32} {ns : List (List Int32)} {M : List NN}
set_option maxRecDepth 100000 in
theorem lv_c {x : Int32} {c : Nat} (h : isL x) (hc : c ≤ 100000) : ((Int32.ofNat c * 26) + gr x - 65) + 1 = Int32.ofNat (26 * c + lv x) := by
  rw [← lv_s h hc, Int32.mul_comm (Int32.ofNat c) 26, Int32.sub_eq_add_neg, Int32.sub_eq_add_neg, Int32.add_assoc]
  rfl
set_option maxRecDepth 100000 in
theorem dv_c {x : Int32} {w : Nat} (h : isD x) (hw : w ≤ 2000000) : ((Int32.ofNat w * 10) + x) - 48 = Int32.ofNat (10 * w + dv x) := by
  rw [← dv_s h hw, Int32.mul_comm (Int32.ofNat w) 10]
def a9 (a _k : Nat) : Prop := a = 109
set_option maxRecDepth 100000 in
theorem a9C {a k : Nat} (h : a9 a k) : AC b a k := by unfold a9 at h; unfold AC; omega
set_option maxRecDepth 100000 in
theorem a9O {a k : Nat} (h : a9 a k) : aO b a k := by unfold a9 at h; unfold aO; omega
set_option maxRecDepth 100000 in
/-- letters of a column -/
theorem x90l : ∀ (m q c e n : Nat) (s : aS), KS s b t ns → sI s 109 0 = Int32.ofNat e → sI s 109 2 = Int32.ofNat c → c ≤ 16384 → e ≤ t.length → q + m = 3 → m < n → ∃ v s', dm90_2 n 79 (Int32.ofNat q) s = some (v, s') ∧ ch (fun a k => a = 109 ∧ (k = 0 ∨ k = 2)) s s' ∧ sI s' 109 0 = Int32.ofNat (clG t m e q c).2.2 ∧ ((v = (if (clG t m e q c).1 = 0 then 0 else 1) ∧ sI s' 109 2 = Int32.ofNat (clG t m e q c).2.1) ∨ (v = 0 ∧ isL (t.getD (clG t m e q c).2.2 0))) := by
  intro m
  induction m with
  | zero =>
    intro q c e n s h h0 h2 hc he hq hn
    obtain ⟨n, rfl⟩ : ∃ k, n = k + 1 := ⟨n - 1, by omega⟩
    have hq3 : q = 3 := by omega
    subst hq3
    rw [dm90_2, if_pos (by decide)]
    refine ⟨1, s, rfl, ch.refl _ s, h0, Or.inl ⟨rfl, h2⟩⟩
  | succ m ih =>
    intro q c e n s h h0 h2 hc he hq hn
    have hl := h.1.2.1
    obtain ⟨n, rfl⟩ : ∃ k, n = k + 1 := ⟨n - 1, by omega⟩
    rw [dm90_2, if_neg (fun z => by have := (nle_iff (a := 3) (by omega) (by omega)).mp z; omega), h0, x34 h (by omega)]
    simp only [bu_some, d45, d35]
    rw [clG]
    by_cases c1 : isL (t.getD e (-1))
    · have c10 : isL (t.getD e 0) := (gd_p isLm isL0).mp c1
      have hin : e < t.length := in_of isLm c1
      have ex : t.getD e 0 = t.getD e (-1) := (gd_in hin).symm
      have hlv := lv_b c1
      rw [b01_t c1, if_neg (by decide), b01_t c10, if_neg (show ¬ (1 : Int32) = 0 by decide), h2, lv_c c1 (by omega), ex]
      by_cases c2 : 16384 < 26 * c + lv (t.getD e (-1))
      · rw [if_neg (fun z => by have := (nle_iff (b := 16384) (by omega) (by omega)).mp z; omega), if_pos c2]
        exact ⟨0, s, rfl, ch.refl _ s, h0, Or.inr ⟨rfl, c10⟩⟩
      · rw [if_pos (show Int32.ofNat (26 * c + lv (t.getD e (-1))) ≤ 16384 from (nle_iff (b := 16384) (by omega) (by omega)).mpr (by omega)), if_neg c2]
        simp only [nx_eq]
        have e0 : sI (wI s 109 2 (Int32.ofNat (26 * c + lv (t.getD e (-1))))) 109 0 = Int32.ofNat e := by rw [sI_wI, if_neg (by omega)]; exact h0
        rw [e0, ofNat_succ (by omega), ofNat_succ (by omega)]
        have g : ch (fun a k => a = 109 ∧ (k = 0 ∨ k = 2)) s (wI (wI s 109 2 (Int32.ofNat (26 * c + lv (t.getD e (-1))))) 109 0 (Int32.ofNat (e + 1))) := ((ch.refl _ s).wI (by omega)).wI (by omega)
        obtain ⟨v, s', k1, k2, k3, k4⟩ := ih (q + 1) (26 * c + lv (t.getD e (-1))) (e + 1) n (wI (wI s 109 2 (Int32.ofNat (26 * c + lv (t.getD e (-1))))) 109 0 (Int32.ofNat (e + 1))) (h.of (b := b) (g.mono fun a k z => by unfold AC; omega)) (by rw [sI_wI, if_pos ⟨rfl, rfl⟩]) (by rw [sI_wI, if_neg (by omega), sI_wI, if_pos ⟨rfl, rfl⟩]) (by omega) (by omega) (by omega) (by omega)
        exact ⟨v, s', k1, g.trans k2, k3, k4⟩
    · have c10 : ¬ isL (t.getD e 0) := fun z => c1 ((gd_p isLm isL0).mpr z)
      rw [b01_f c1, if_pos rfl, b01_f c10, if_pos rfl]
      unfold dm90_42
      by_cases q0 : q = 0
      · subst q0
        rw [if_pos (by decide)]
        exact ⟨0, s, rfl, ch.refl _ s, h0, Or.inl ⟨rfl, h2⟩⟩
      · rw [if_neg (fun z => by have := (nle_iff (b := 0) (by omega) (by omega)).mp z; omega)]
        exact ⟨1, s, rfl, ch.refl _ s, h0, Or.inl ⟨(if_neg q0).symm, h2⟩⟩
set_option maxRecDepth 100000 in
/-- digits of a row -/
theorem x91l : ∀ (m q w e n m9 : Nat) (s : aS), KS s b t ns → sI s 109 0 = Int32.ofNat e → sI s 109 1 = Int32.ofNat w → w ≤ 1048576 → (q = 0 → w = 0) → (1 ≤ q → 10 ^ (q - 1) ≤ w) → e ≤ t.length → t.length < e + m9 → q + m = 7 → m < n → ∃ v s', dm91_2 n 79 (Int32.ofNat q) s = some (v, s') ∧ ch (fun a k => a = 109 ∧ (k = 0 ∨ k = 1)) s s' ∧ ((v = 1 ∧ (q = 0 → rowB t e) ∧ sI s' 109 0 = Int32.ofNat (rwG t m9 e w).2 ∧ sI s' 109 1 = Int32.ofNat (rwG t m9 e w).1) ∨ (v = 0 ∧ ((q = 0 ∧ ¬ rowB t e ∧ sI s' 109 0 = Int32.ofNat e) ∨ ((q = 0 → rowB t e) ∧ isD (t.getD (rwG t m9 e w).2 0) ∧ sI s' 109 0 = Int32.ofNat (rwG t m9 e w).2)))) := by
  intro m
  induction m with
  | zero =>
    intro q w e n m9 s h h0 h1 hw hq0 hq1 he hm9 hq hn
    obtain ⟨n, rfl⟩ : ∃ k, n = k + 1 := ⟨n - 1, by omega⟩
    obtain ⟨m9, rfl⟩ : ∃ k, m9 = k + 1 := ⟨m9 - 1, by omega⟩
    have hq7 : q = 7 := by omega
    subst hq7
    have hw6 : 1000000 ≤ w := hq1 (by omega)
    have er : rwG t (m9 + 1) e w = (w, e) := by
      rw [rwG]
      split
      · rfl
      · rw [if_pos (by omega)]
    rw [dm91_2, if_pos (by decide), er]
    exact ⟨1, s, rfl, ch.refl _ s, Or.inl ⟨rfl, fun z => by omega, h0, h1⟩⟩
  | succ m ih =>
    intro q w e n m9 s h h0 h1 hw hq0 hq1 he hm9 hq hn
    have hl := h.1.2.1
    obtain ⟨n, rfl⟩ : ∃ k, n = k + 1 := ⟨n - 1, by omega⟩
    obtain ⟨m9, rfl⟩ : ∃ k, m9 = k + 1 := ⟨m9 - 1, by omega⟩
    rw [dm91_2, if_neg (fun z => by have := (nle_iff (a := 7) (by omega) (by omega)).mp z; omega), h0, x34 h (by omega)]
    simp only [bu_some, d47]
    rw [rwG]
    by_cases c1 : isD (t.getD e (-1))
    · have c10 : isD (t.getD e 0) := (gd_p isDm isD0).mp c1
      have hin : e < t.length := in_of isDm c1
      have ex : t.getD e 0 = t.getD e (-1) := (gd_in hin).symm
      have hdv := dv_b c1
      rw [b01_t c1, if_neg (by decide), b01_t c10, if_neg (show ¬ (1 : Int32) = 0 by decide), h1, dv_c c1 (by omega), ex]
      by_cases c2 : 10 * w + dv (t.getD e (-1)) < 1
      · rw [if_pos (show Int32.ofNat (10 * w + dv (t.getD e (-1))) < 1 by
          rw [iLt, iOfNat (by omega)]
          show ((10 * w + dv (t.getD e (-1)) : Nat) : Int) < 1
          omega)]
        have hq : q = 0 := by
          refine Classical.byContradiction fun z => ?_
          have := hq1 (by omega)
          have : 0 < 10 ^ (q - 1) := Nat.pow_pos (by decide)
          omega
        refine ⟨0, s, rfl, ch.refl _ s, Or.inr ⟨rfl, Or.inl ⟨hq, fun z => z.2 ?_, h0⟩⟩⟩
        have hd0 : dv (t.getD e (-1)) = 0 := by omega
        unfold isD at c1
        unfold dv at hd0
        rw [ex, iEq]
        have : (48 : Int32).toInt = 48 := rfl
        omega
      · rw [if_neg (show ¬ Int32.ofNat (10 * w + dv (t.getD e (-1))) < 1 from fun z => by
          rw [iLt, iOfNat (by omega)] at z
          have z : ((10 * w + dv (t.getD e (-1)) : Nat) : Int) < 1 := z
          omega)]
        by_cases c3 : 1048576 < 10 * w + dv (t.getD e (-1))
        · rw [if_neg (show ¬ Int32.ofNat (10 * w + dv (t.getD e (-1))) ≤ 1048576 from fun z => by
            rw [iLe, iOfNat (by omega)] at z
            have z : ((10 * w + dv (t.getD e (-1)) : Nat) : Int) ≤ 1048576 := z
            omega), if_pos c3]
          exact ⟨0, s, rfl, ch.refl _ s, Or.inr ⟨rfl, Or.inr ⟨fun q0 => by have := hq0 q0; omega, c10, h0⟩⟩⟩
        · rw [if_pos (show Int32.ofNat (10 * w + dv (t.getD e (-1))) ≤ 1048576 by rw [iLe, iOfNat (by omega)]; show _ ≤ (1048576 : Int); omega), if_neg c3]
          simp only [nx_eq]
          have e0 : sI (wI s 109 1 (Int32.ofNat (10 * w + dv (t.getD e (-1))))) 109 0 = Int32.ofNat e := by rw [sI_wI, if_neg (by omega)]; exact h0
          rw [e0, ofNat_succ (by omega), ofNat_succ (by omega)]
          have g : ch (fun a k => a = 109 ∧ (k = 0 ∨ k = 1)) s (wI (wI s 109 1 (Int32.ofNat (10 * w + dv (t.getD e (-1))))) 109 0 (Int32.ofNat (e + 1))) := ((ch.refl _ s).wI (by omega)).wI (by omega)
          have hpw : 10 ^ (q + 1 - 1) ≤ 10 * w + dv (t.getD e (-1)) := by
            rw [Nat.add_sub_cancel]
            by_cases q0 : q = 0
            · subst q0
              rw [Nat.pow_zero]
              omega
            · have := hq1 (by omega)
              obtain ⟨k, rfl⟩ : ∃ k, q = k + 1 := ⟨q - 1, by omega⟩
              rw [Nat.add_sub_cancel] at this
              rw [Nat.pow_succ]
              omega
          obtain ⟨v, s', k1, k2, k3⟩ := ih (q + 1) (10 * w + dv (t.getD e (-1))) (e + 1) n m9 (wI (wI s 109 1 (Int32.ofNat (10 * w + dv (t.getD e (-1))))) 109 0 (Int32.ofNat (e + 1))) (h.of (b := b) (g.mono fun a k z => by unfold AC; omega)) (by rw [sI_wI, if_pos ⟨rfl, rfl⟩]) (by rw [sI_wI, if_neg (by omega), sI_wI, if_pos ⟨rfl, rfl⟩]) (by omega) (fun z => by omega) (fun _ => hpw) (by omega) (by omega) (by omega) (by omega)
          refine ⟨v, s', k1, g.trans k2, ?_⟩
          have hrb : q = 0 → rowB t e := fun q0 => ⟨c10, fun z => c2 (by
            have := hq0 q0
            have : dv (t.getD e (-1)) = 0 := by rw [← ex, z]; rfl
            omega)⟩
          rcases k3 with ⟨a1, -, a3, a4⟩ | ⟨a1, ⟨a2, -⟩ | ⟨-, a2⟩⟩
          · exact Or.inl ⟨a1, hrb, a3, a4⟩
          · omega
          · exact Or.inr ⟨a1, Or.inr ⟨hrb, a2⟩⟩
    · have c10 : ¬ isD (t.getD e 0) := fun z => c1 ((gd_p isDm isD0).mpr z)
      rw [b01_f c1, if_pos rfl, b01_f c10, if_pos rfl]
      unfold dm91_42
      by_cases q0 : q = 0
      · subst q0
        rw [if_pos (by decide)]
        exact ⟨0, s, rfl, ch.refl _ s, Or.inr ⟨rfl, Or.inl ⟨rfl, fun z => c10 z.1, h0⟩⟩⟩
      · rw [if_neg (fun z => by have := (nle_iff (b := 0) (by omega) (by omega)).mp z; omega)]
        exact ⟨1, s, rfl, ch.refl _ s, Or.inl ⟨rfl, fun z => absurd z q0, h0, h1⟩⟩
set_option maxRecDepth 100000 in
theorem x92 (x : Int32) : dm92 x = some (if b01 (bad x) = 0 then 1 else 0) := by
  unfold dm92
  rw [d46]
  simp only [bu_some]
  by_cases c1 : gW x
  · rw [b01_t c1, if_neg (by decide), if_neg (fun z => b01_ne.mp z (show bad x from Or.inl c1))]
  · rw [b01_f c1, if_pos rfl]
    by_cases c2 : x = 40
    · rw [if_pos c2, if_neg (fun z => b01_ne.mp z (show bad x from Or.inr (Or.inl c2)))]
    · rw [if_neg c2]
      by_cases c3 : x = 33
      · rw [if_pos c3, if_neg (fun z => b01_ne.mp z (show bad x from Or.inr (Or.inr c3)))]
      · rw [if_neg c3, if_pos (b01_ne.mpr (fun z => z.elim c1 (fun z => z.elim c2 c3)))]
set_option maxRecDepth 100000 in
/-- a cell read from place j on -/
theorem x89 {j : Nat} (h : KS s b t ns) (hj : j ≤ t.length) : ∃ v s', dm89 79 (Int32.ofNat j) s = some (v, s') ∧ ch a9 s s' ∧ ((v = 1 ∧ cOk t j ∧ ¬ bad (t.getD (cE t j) 0) ∧ sI s' 109 0 = Int32.ofNat (cE t j) ∧ sI s' 109 1 = Int32.ofNat (cW t j) ∧ sI s' 109 2 = Int32.ofNat (cK t j).2.1 ∧ sI s' 109 3 = Int32.ofNat (cFl t j)) ∨ (v = 0 ∧ (¬ cOk t j ∨ bad (t.getD (cE t j) 0)) ∧ ∃ e, sI s' 109 0 = Int32.ofNat e ∧ ((e = (cK t j).2.2 ∧ ((cK t j).1 = 0 ∨ isL (t.getD (cK t j).2.2 0))) ∨ e = cJ t j ∨ (e = cE t j ∧ rowB t (cJ t j))))) := by
  have hl := h.1.2.1
  have hdl := dlR_b (t := t) (i := j) hj
  -- the row
  have f54 : ∀ s2, KS s2 b t ns → ch a9 s s2 → sI s2 109 0 = Int32.ofNat (cJ t j) → sI s2 109 1 = Int32.ofNat 0 → sI s2 109 2 = Int32.ofNat (cK t j).2.1 → sI s2 109 3 = Int32.ofNat (cFl t j) → ¬ (cK t j).1 = 0 → ∃ v s', dm89_54 79 s2 = some (v, s') ∧ ch a9 s s' ∧ ((v = 1 ∧ cOk t j ∧ ¬ bad (t.getD (cE t j) 0) ∧ sI s' 109 0 = Int32.ofNat (cE t j) ∧ sI s' 109 1 = Int32.ofNat (cW t j) ∧ sI s' 109 2 = Int32.ofNat (cK t j).2.1 ∧ sI s' 109 3 = Int32.ofNat (cFl t j)) ∨ (v = 0 ∧ (¬ cOk t j ∨ bad (t.getD (cE t j) 0)) ∧ ∃ e, sI s' 109 0 = Int32.ofNat e ∧ ((e = (cK t j).2.2 ∧ ((cK t j).1 = 0 ∨ isL (t.getD (cK t j).2.2 0))) ∨ e = cJ t j ∨ (e = cE t j ∧ rowB t (cJ t j))))) := by
    intro s2 K2 g2 f0 f1 f2 f3 hn0
    have hKb := cK_b (t := t) hj
    have hJb : cJ t j ≤ t.length := (dlR_b (t := t) (i := (cK t j).2.2) hKb.2.2.2.1).1
    obtain ⟨v, s3, k1, k2, k3⟩ := x91l 7 0 0 (cJ t j) 5000 300 s2 K2 f0 f1 (by omega) (fun _ => rfl) (fun z => by omega) hJb (by omega) (by omega) (by omega)
    have k1 : dm91 79 s2 = some (v, s3) := k1
    have K3 := K2.of (b := b) (k2.mono fun a k z => by unfold AC; omega)
    have g3 : ch a9 s s3 := g2.trans (k2.mono fun a k z => z.1)
    unfold dm89_54
    rw [k1]
    simp only [bv_some]
    rcases k3 with ⟨a1, a2, a3, a4⟩ | ⟨a1, a2⟩
    · subst a1
      have hrb := a2 rfl
      have hok : cOk t j := ⟨hn0, hrb⟩
      have hEb := (cOk_b hj hok).2.2.2
      have a3 : sI s3 109 0 = Int32.ofNat (cE t j) := a3
      have a4 : sI s3 109 1 = Int32.ofNat (cW t j) := a4
      rw [if_neg (by decide), a3, x34 K3 (by omega)]
      simp only [bu_some, x92]
      have hbd : bad (t.getD (cE t j) (-1)) ↔ bad (t.getD (cE t j) 0) := gd_p bad_m bad_0
      by_cases cb : bad (t.getD (cE t j) (-1))
      · rw [if_neg (fun z => b01_ne.mp z cb), if_pos rfl]
        exact ⟨0, s3, rfl, g3, Or.inr ⟨rfl, Or.inr (hbd.mp cb), cE t j, a3, Or.inr (Or.inr ⟨rfl, hrb⟩)⟩⟩
      · rw [if_pos (b01_ne.mpr cb), if_neg (by decide)]
        refine ⟨1, s3, rfl, g3, Or.inl ⟨rfl, hok, fun z => cb (hbd.mpr z), a3, a4, (k2.i (by omega)).trans f2, (k2.i (by omega)).trans f3⟩⟩
    · subst a1
      rw [if_pos rfl]
      rcases a2 with ⟨-, a3, a4⟩ | ⟨a5, a3, a4⟩
      · exact ⟨0, s3, rfl, g3, Or.inr ⟨rfl, Or.inl (fun z => a3 z.2), cJ t j, a4, Or.inr (Or.inl rfl)⟩⟩
      · have a3 : isD (t.getD (cE t j) 0) := a3
        have a4 : sI s3 109 0 = Int32.ofNat (cE t j) := a4
        exact ⟨0, s3, rfl, g3, Or.inr ⟨rfl, Or.inr (Or.inl (Or.inr (Or.inl a3))), cE t j, a4, Or.inr (Or.inr ⟨rfl, a5 rfl⟩)⟩⟩
  -- the column
  have f30 : ∀ s2, KS s2 b t ns → ch a9 s s2 → sI s2 109 0 = Int32.ofNat (j + dlR t j) → sI s2 109 1 = Int32.ofNat 0 → sI s2 109 2 = Int32.ofNat 0 → sI s2 109 3 = Int32.ofNat (2 * dlR t j) → ∃ v s', dm89_30 79 s2 = some (v, s') ∧ ch a9 s s' ∧ ((v = 1 ∧ cOk t j ∧ ¬ bad (t.getD (cE t j) 0) ∧ sI s' 109 0 = Int32.ofNat (cE t j) ∧ sI s' 109 1 = Int32.ofNat (cW t j) ∧ sI s' 109 2 = Int32.ofNat (cK t j).2.1 ∧ sI s' 109 3 = Int32.ofNat (cFl t j)) ∨ (v = 0 ∧ (¬ cOk t j ∨ bad (t.getD (cE t j) 0)) ∧ ∃ e, sI s' 109 0 = Int32.ofNat e ∧ ((e = (cK t j).2.2 ∧ ((cK t j).1 = 0 ∨ isL (t.getD (cK t j).2.2 0))) ∨ e = cJ t j ∨ (e = cE t j ∧ rowB t (cJ t j))))) := by
    intro s2 K2 g2 f0 f1 f2 f3
    have hKb := cK_b (t := t) hj
    obtain ⟨v, s3, k1, k2, k3, k4⟩ := x90l 3 0 0 (j + dlR t j) 5000 s2 K2 f0 f2 (by omega) (by omega) (by omega) (by omega)
    have k1 : dm90 79 s2 = some (v, s3) := k1
    have k3 : sI s3 109 0 = Int32.ofNat (cK t j).2.2 := k3
    have k4 : (v = (if (cK t j).1 = 0 then 0 else 1) ∧ sI s3 109 2 = Int32.ofNat (cK t j).2.1) ∨ (v = 0 ∧ isL (t.getD (cK t j).2.2 0)) := k4
    have K3 := K2.of (b := b) (k2.mono fun a k z => by unfold AC; omega)
    have g3 : ch a9 s s3 := g2.trans (k2.mono fun a k z => z.1)
    have e1 : sI s3 109 1 = Int32.ofNat 0 := (k2.i (by omega)).trans f1
    have e3 : sI s3 109 3 = Int32.ofNat (2 * dlR t j) := (k2.i (by omega)).trans f3
    unfold dm89_30
    rw [k1]
    simp only [bv_some]
    rcases k4 with ⟨a1, a2⟩ | ⟨a1, a2⟩
    · by_cases c0 : (cK t j).1 = 0
      · rw [if_pos c0] at a1
        rw [if_pos a1]
        exact ⟨0, s3, rfl, g3, Or.inr ⟨rfl, Or.inl (fun z => z.1 c0), _, k3, Or.inl ⟨rfl, Or.inl c0⟩⟩⟩
      · rw [if_neg c0] at a1
        rw [if_neg (by rw [a1]; decide), k3, x34 K3 (by omega)]
        simp only [bu_some]
        by_cases cd : t.getD (cK t j).2.2 (-1) = 36
        · have cd0 : t.getD (cK t j).2.2 0 = 36 := (gd_eq (by decide) (by decide)).mp cd
          have ed : dlR t (cK t j).2.2 = 1 := if_pos cd0
          rw [if_pos cd, e3]
          simp only [nx_eq]
          have e0 : sI (wI s3 109 3 (Int32.ofNat (2 * dlR t j) + 1)) 109 0 = Int32.ofNat (cK t j).2.2 := by rw [sI_wI, if_neg (by omega)]; exact k3
          rw [e0, ofNat_succ (by omega), ofNat_succ (by omega)]
          have g4 : ch a9 s3 (wI (wI s3 109 3 (Int32.ofNat (2 * dlR t j + 1))) 109 0 (Int32.ofNat ((cK t j).2.2 + 1))) := ((ch.refl a9 s3).wI rfl).wI rfl
          refine f54 _ (K3.of (b := b) (g4.mono fun a k z => a9C z)) (g3.trans g4) ?_ ?_ ?_ ?_ c0
          · rw [sI_wI, if_pos ⟨rfl, rfl⟩]
            unfold cJ
            rw [ed]
          · rw [sI_wI, if_neg (by omega), sI_wI, if_neg (by omega)]
            exact e1
          · rw [sI_wI, if_neg (by omega), sI_wI, if_neg (by omega)]
            exact a2
          · rw [sI_wI, if_neg (by omega), sI_wI, if_pos ⟨rfl, rfl⟩]
            unfold cFl
            rw [ed]
        · have cd0 : ¬ t.getD (cK t j).2.2 0 = 36 := fun z => cd ((gd_eq (by decide) (by decide)).mpr z)
          have ed : dlR t (cK t j).2.2 = 0 := if_neg cd0
          rw [if_neg cd]
          refine f54 s3 K3 g3 ?_ e1 a2 ?_ c0
          · rw [k3]
            unfold cJ
            rw [ed, Nat.add_zero]
          · rw [e3]
            unfold cFl
            rw [ed, Nat.add_zero]
    · rw [if_pos a1]
      refine ⟨0, s3, rfl, g3, Or.inr ⟨rfl, Or.inl (fun z => ?_), _, k3, Or.inl ⟨rfl, Or.inr a2⟩⟩⟩
      have n36 : ¬ t.getD (cK t j).2.2 0 = 36 := fun q => by
        rw [q] at a2
        unfold isL at a2
        exact absurd a2 (by decide)
      have ed : dlR t (cK t j).2.2 = 0 := if_neg n36
      have hz := z.2.1
      unfold cJ at hz
      rw [ed, Nat.add_zero] at hz
      exact L_D a2 hz
  unfold dm89
  simp only [nx_eq]
  let s4 := wI (wI (wI (wI s 109 0 (Int32.ofNat j)) 109 1 0) 109 2 0) 109 3 0
  have g4 : ch a9 s s4 := ((((ch.refl a9 s).wI rfl).wI rfl).wI rfl).wI rfl
  have K4 := h.of (b := b) (g4.mono fun a k z => a9C z)
  have q0 : sI s4 109 0 = Int32.ofNat j := by
    show sI (wI (wI (wI (wI s 109 0 (Int32.ofNat j)) 109 1 0) 109 2 0) 109 3 0) 109 0 = _
    rw [sI_wI, if_neg (by omega), sI_wI, if_neg (by omega), sI_wI, if_neg (by omega), sI_wI, if_pos ⟨rfl, rfl⟩]
  have q1 : sI s4 109 1 = Int32.ofNat 0 := by
    show sI (wI (wI (wI (wI s 109 0 (Int32.ofNat j)) 109 1 0) 109 2 0) 109 3 0) 109 1 = _
    rw [sI_wI, if_neg (by omega), sI_wI, if_neg (by omega), sI_wI, if_pos ⟨rfl, rfl⟩]
    rfl
  have q2 : sI s4 109 2 = Int32.ofNat 0 := by
    show sI (wI (wI (wI (wI s 109 0 (Int32.ofNat j)) 109 1 0) 109 2 0) 109 3 0) 109 2 = _
    rw [sI_wI, if_neg (by omega), sI_wI, if_pos ⟨rfl, rfl⟩]
    rfl
  have q3 : sI s4 109 3 = Int32.ofNat 0 := by
    show sI (wI (wI (wI (wI s 109 0 (Int32.ofNat j)) 109 1 0) 109 2 0) 109 3 0) 109 3 = _
    rw [sI_wI, if_pos ⟨rfl, rfl⟩]
    rfl
  show ∃ v s', bu (dm34 79 (sI s4 109 0) s4) _ = some (v, s') ∧ _
  rw [q0, x34 K4 (by omega)]
  simp only [bu_some]
  by_cases cd : t.getD j (-1) = 36
  · have cd0 : t.getD j 0 = 36 := (gd_eq (by decide) (by decide)).mp cd
    have ed : dlR t j = 1 := if_pos cd0
    rw [if_pos cd]
    have e3 : sI s4 109 3 + 2 = Int32.ofNat 2 := by rw [q3]; rfl
    show ∃ v s', dm89_30 79 (wI (wI s4 109 3 (sI s4 109 3 + 2)) 109 0 (sI (wI s4 109 3 (sI s4 109 3 + 2)) 109 0 + 1)) = some (v, s') ∧ _
    have e0 : sI (wI s4 109 3 (sI s4 109 3 + 2)) 109 0 = Int32.ofNat j := by rw [sI_wI, if_neg (by omega)]; exact q0
    rw [e0, e3, ofNat_succ (by omega)]
    have g5 : ch a9 s4 (wI (wI s4 109 3 (Int32.ofNat 2)) 109 0 (Int32.ofNat (j + 1))) := ((ch.refl a9 s4).wI rfl).wI rfl
    refine f30 _ (K4.of (b := b) (g5.mono fun a k z => a9C z)) (g4.trans g5) ?_ ?_ ?_ ?_
    · rw [sI_wI, if_pos ⟨rfl, rfl⟩, ed]
    · rw [sI_wI, if_neg (by omega), sI_wI, if_neg (by omega)]
      exact q1
    · rw [sI_wI, if_neg (by omega), sI_wI, if_neg (by omega)]
      exact q2
    · rw [sI_wI, if_neg (by omega), sI_wI, if_pos ⟨rfl, rfl⟩, ed]
  · have cd0 : ¬ t.getD j 0 = 36 := fun z => cd ((gd_eq (by decide) (by decide)).mpr z)
    have ed : dlR t j = 0 := if_neg cd0
    rw [if_neg cd]
    exact f30 s4 K4 g4 (by rw [ed, Nat.add_zero]; exact q0) q1 q2 (by rw [ed]; exact q3)
end XX
end
section
/-! words that are cells: as FormulaTrees reads them, and as the reference does -/
section WD
variable {t : List Int32}
set_option maxRecDepth 100000 in
theorem cnt_ge {p : Int32 → Prop} {d : Int32} (h0 : ¬ p d) : ∀ (k i : Nat), (∀ q, q < k → p (t.getD (i + q) d)) → k ≤ cntF p (t.drop i) := by
  intro k
  induction k with
  | zero => exact fun i _ => Nat.zero_le _
  | succ k ih =>
    intro i h
    have c := h 0 (by omega)
    rw [Nat.add_zero] at c
    obtain ⟨c1, c2⟩ := cnt_y h0 c
    have := ih (i + 1) (fun q hq => by rw [show i + 1 + q = i + (q + 1) by omega]; exact h (q + 1) (by omega))
    omega
set_option maxRecDepth 100000 in
theorem cvG_m : ∀ (k i c : Nat), c ≤ cvG t k i c
  | 0, i, c => Nat.le_refl _
  | k + 1, i, c => Nat.le_trans (by omega) (cvG_m k (i + 1) (26 * c + lv (t.getD i 0)))
set_option maxRecDepth 100000 in
theorem clG_i : ∀ (m i n c : Nat), ∃ k, k ≤ m ∧ clG t m i n c = (n + k, cvG t k i c, i + k) ∧ ∀ q, q < k → isL (t.getD (i + q) 0)
  | 0, i, n, c => ⟨0, Nat.le_refl _, rfl, fun q hq => absurd hq (Nat.not_lt_zero q)⟩
  | m + 1, i, n, c => by
    rw [clG]
    by_cases c1 : isL (t.getD i 0)
    · rw [if_neg (fun z => b01_ne.mp z c1)]
      by_cases c2 : 16384 < 26 * c + lv (t.getD i 0)
      · rw [if_pos c2]
        exact ⟨0, Nat.zero_le _, rfl, fun q hq => absurd hq (Nat.not_lt_zero q)⟩
      · rw [if_neg c2]
        obtain ⟨k, h1, h2, h3⟩ := clG_i m (i + 1) (n + 1) (26 * c + lv (t.getD i 0))
        refine ⟨k + 1, by omega, ?_, fun q hq => ?_⟩
        · rw [h2, show n + 1 + k = n + (k + 1) by omega, show i + 1 + k = i + (k + 1) by omega]
          rfl
        · by_cases q0 : q = 0
          · subst q0
            exact c1
          · have := h3 (q - 1) (by omega)
            rw [show i + 1 + (q - 1) = i + q by omega] at this
            exact this
    · rw [if_pos (b01_ne.mpr c1)]
      exact ⟨0, Nat.zero_le _, rfl, fun q hq => absurd hq (Nat.not_lt_zero q)⟩
set_option maxRecDepth 100000 in
theorem clG_r : ∀ (k m i n c : Nat), k ≤ m → (∀ q, q < k → isL (t.getD (i + q) 0)) → cvG t k i c ≤ 16384 → clG t m i n c = clG t (m - k) (i + k) (n + k) (cvG t k i c)
  | 0, m, i, n, c, _, _, _ => rfl
  | k + 1, m, i, n, c, hm, hL, hc => by
    obtain ⟨m, rfl⟩ : ∃ q, m = q + 1 := ⟨m - 1, by omega⟩
    have c1 := hL 0 (by omega)
    rw [Nat.add_zero] at c1
    have hc : cvG t k (i + 1) (26 * c + lv (t.getD i 0)) ≤ 16384 := hc
    have hm2 := cvG_m (t := t) k (i + 1) (26 * c + lv (t.getD i 0))
    rw [clG, if_neg (fun z => b01_ne.mp z c1), if_neg (by omega), clG_r k m (i + 1) (n + 1) _ (by omega) (fun q hq => by rw [show i + 1 + q = i + (q + 1) by omega]; exact hL (q + 1) (by omega)) hc, show m + 1 - (k + 1) = m - k by omega, show i + 1 + k = i + (k + 1) by omega, show n + 1 + k = n + (k + 1) by omega]
    rfl
set_option maxRecDepth 100000 in
theorem clG_s {m i n c : Nat} (h : ¬ isL (t.getD i 0)) : clG t m i n c = (n, c, i) := by
  cases m with
  | zero => rfl
  | succ m => rw [clG, if_pos (b01_ne.mpr h)]
set_option maxRecDepth 100000 in
theorem rwG_i : ∀ (m i w : Nat), ∃ k, k ≤ m ∧ (rwG t m i w).2 = i + k ∧ dgG t k i w = some (rwG t m i w).1 ∧ ∀ q, q < k → isD (t.getD (i + q) 0)
  | 0, i, w => ⟨0, Nat.le_refl _, rfl, rfl, fun q hq => absurd hq (Nat.not_lt_zero q)⟩
  | m + 1, i, w => by
    rw [rwG]
    by_cases c1 : isD (t.getD i 0)
    · rw [if_neg (fun z => b01_ne.mp z c1)]
      by_cases c2 : 1048576 < 10 * w + dv (t.getD i 0)
      · rw [if_pos c2]
        exact ⟨0, Nat.zero_le _, rfl, rfl, fun q hq => absurd hq (Nat.not_lt_zero q)⟩
      · rw [if_neg c2]
        obtain ⟨k, h1, h2, h3, h4⟩ := rwG_i m (i + 1) (10 * w + dv (t.getD i 0))
        refine ⟨k + 1, by omega, by rw [h2]; omega, ?_, fun q hq => ?_⟩
        · rw [dgG, if_neg (fun z => b01_ne.mp z c1)]
          exact h3
        · by_cases q0 : q = 0
          · subst q0
            exact c1
          · have := h4 (q - 1) (by omega)
            rw [show i + 1 + (q - 1) = i + q by omega] at this
            exact this
    · rw [if_pos (b01_ne.mpr c1)]
      exact ⟨0, Nat.zero_le _, rfl, rfl, fun q hq => absurd hq (Nat.not_lt_zero q)⟩
set_option maxRecDepth 100000 in
theorem rwG_r : ∀ (k m i w v : Nat), k ≤ m → dgG t k i w = some v → v ≤ 1048576 → rwG t m i w = rwG t (m - k) (i + k) v
  | 0, m, i, w, v, _, h, _ => by
    have h : some w = some v := h
    cases h
    rfl
  | k + 1, m, i, w, v, hm, h, hv => by
    obtain ⟨m, rfl⟩ : ∃ q, m = q + 1 := ⟨m - 1, by omega⟩
    rw [dgG] at h
    by_cases c1 : isD (t.getD i 0)
    · rw [if_neg (fun z => b01_ne.mp z c1)] at h
      have := dgG_b k (i + 1) _ v h
      rw [rwG, if_neg (fun z => b01_ne.mp z c1), if_neg (by omega), rwG_r k m (i + 1) _ v (by omega) h hv, show m + 1 - (k + 1) = m - k by omega, show i + 1 + k = i + (k + 1) by omega]
    · rw [if_pos (b01_ne.mpr c1)] at h
      cases h
set_option maxRecDepth 100000 in
theorem rwG_s {m i w : Nat} (h : ¬ isD (t.getD i 0)) : rwG t m i w = (w, i) := by
  cases m with
  | zero => rfl
  | succ m => rw [rwG, if_pos (b01_ne.mpr h)]
set_option maxRecDepth 100000 in
theorem dgG_p : ∀ (k i w v : Nat), dgG t k i w = some v → w * 10 ^ k ≤ v
  | 0, i, w, v, h => by
    have h : some w = some v := h
    cases h
    rw [Nat.pow_zero, Nat.mul_one]
    exact Nat.le_refl _
  | k + 1, i, w, v, h => by
    rw [dgG] at h
    by_cases c1 : isD (t.getD i 0)
    · rw [if_neg (fun z => b01_ne.mp z c1)] at h
      have := dgG_p k (i + 1) _ v h
      rw [Nat.add_mul] at this
      rw [Nat.pow_succ]
      have e : w * (10 ^ k * 10) = 10 * w * 10 ^ k := by
        rw [Nat.mul_comm (10 ^ k) 10, ← Nat.mul_assoc, Nat.mul_comm w 10]
      omega
    · rw [if_pos (b01_ne.mpr c1)] at h
      cases h
set_option maxRecDepth 100000 in
theorem L36 {x : Int32} (h : gW x) : ¬ x = 36 := fun q => by
  rw [q] at h
  unfold gW isL isD at h
  exact absurd h (by decide)
set_option maxRecDepth 100000 in
/-- where a cell's letters and digits end in a word -/
theorem wd_in {i : Nat} (hb : bW (t.getD i 0)) : ∃ k, k ≤ 3 ∧ cK t i = (k, cvG t k i 0, i + k) ∧ (∀ q, q < k → isL (t.getD (i + q) 0)) ∧ i + k ≤ wdE t i ∧ dlR t i = 0 := by
  have hg : gW (t.getD i 0) := by
    rcases hb with q | q
    · exact Or.inl q
    · exact Or.inr (Or.inr (Or.inl q))
  have ed : dlR t i = 0 := if_neg (L36 hg)
  obtain ⟨k, h1, h2, h3⟩ := clG_i (t := t) 3 i 0 0
  refine ⟨k, h1, ?_, h3, ?_, ed⟩
  · unfold cK
    rw [ed, Nat.add_zero, h2, Nat.zero_add]
  · have := cnt_ge (p := gW) gW_0 k i (fun q hq => Or.inl (h3 q hq))
    unfold wdE
    omega
set_option maxRecDepth 100000 in
theorem wd_gt {i : Nat} (hb : bW (t.getD i 0)) : i < wdE t i := by
  have := cnt_ge (t := t) (p := gW) (d := 0) gW_0 1 i (fun q hq => by
    rw [show i + q = i by omega]
    rcases hb with z | z
    · exact Or.inl z
    · exact Or.inr (Or.inr (Or.inl z)))
  unfold wdE
  omega
set_option maxRecDepth 100000 in
theorem wd_w {i q : Nat} (h1 : i ≤ q) (h2 : q < wdE t i) : gW (t.getD q 0) := by
  have := cnt_is (p := gW) (t := t) 0 t.length i (q - i) (by omega) (by unfold wdE at h2; omega)
  rw [show i + (q - i) = q by omega] at this
  exact this
set_option maxRecDepth 100000 in
theorem wd_e (i : Nat) : ¬ gW (t.getD (wdE t i) 0) := cnt_end gW_0 t.length i (by omega)
set_option maxRecDepth 100000 in
/-- no $ was passed: all lies in the word -/
theorem wd_nd {i : Nat} (hb : bW (t.getD i 0)) (hd : (cK t i).2.2 < wdE t i ∨ ¬ t.getD (wdE t i) 0 = 36) : cJ t i = (cK t i).2.2 ∧ cFl t i = 0 ∧ cJ t i ≤ wdE t i ∧ cE t i ≤ wdE t i ∧ (¬ bad (t.getD (cE t i) 0) → cE t i = wdE t i) := by
  obtain ⟨k, h1, h2, h3, h4, h5⟩ := wd_in hb
  have e22 : (cK t i).2.2 = i + k := by rw [h2]
  have nd : dlR t (cK t i).2.2 = 0 := by
    rw [e22] at hd ⊢
    refine if_neg fun z => ?_
    by_cases c : i + k < wdE t i
    · exact L36 (wd_w (by omega) c) z
    · rcases hd with q | q
      · exact c q
      · rw [show wdE t i = i + k by omega] at q
        exact q z
  have eJ : cJ t i = i + k := by
    unfold cJ
    rw [nd, e22, Nat.add_zero]
  obtain ⟨k2, r1, r2, r3, r4⟩ := rwG_i (t := t) 300 (cJ t i) 0
  have eE : cE t i = i + (k + k2) := by
    unfold cE
    rw [r2, eJ]
    omega
  have hE : cE t i ≤ wdE t i := by
    have := cnt_ge (t := t) (p := gW) (d := 0) gW_0 (k + k2) i (fun q hq => by
      by_cases c : q < k
      · exact Or.inl (h3 q c)
      · have := r4 (q - k) (by omega)
        rw [eJ, show i + k + (q - k) = i + q by omega] at this
        exact Or.inr (Or.inl this))
    rw [eE]
    unfold wdE
    omega
  refine ⟨by rw [eJ, e22], by unfold cFl; rw [h5, nd], by omega, hE, fun hbd => ?_⟩
  refine Classical.byContradiction fun z => hbd (Or.inl (wd_w (i := i) ?_ ?_))
  · rw [eE]
    omega
  · omega
set_option maxRecDepth 100000 in
theorem lo_eq9 {i k : Nat} (hL : ∀ q, q < k → isL (t.getD (i + q) 0)) (hn : ¬ isL (t.getD (i + k) 0)) (hk : i + k ≤ wdE t i) : lo t i (wdE t i) = k := by
  have h1 := cnt_ge (t := t) (p := isL) (d := 0) isL0 k i hL
  have h2 : cntF isL (t.drop i) ≤ k := by
    refine Classical.byContradiction fun z => hn ?_
    exact cnt_is (p := isL) (t := t) 0 t.length i k (by omega) (by omega)
  unfold lo
  rw [if_pos (by omega)]
  omega
set_option maxRecDepth 100000 in
/-- a word that is no cell for the reference is none for FormulaTrees -/
theorem wc_n {i : Nat} (hi : i < t.length) (hb : bW (t.getD i 0)) (hd : ¬ t.getD (wdE t i) 0 = 36) (h : icR t i (wdE t i) = none) : ¬ (cOk t i ∧ ¬ bad (t.getD (cE t i) 0)) := by
  rintro ⟨hok, hbd⟩
  obtain ⟨k, h1, h2, h3, h4, h5⟩ := wd_in hb
  obtain ⟨n1, n2, n3, n4, n5⟩ := wd_nd hb (Or.inr hd)
  have eE := n5 hbd
  have e22 : (cK t i).2.2 = i + k := by rw [h2]
  have eJ : cJ t i = i + k := n1.trans e22
  have hob := cOk_b (by omega) hok
  have k0 : ¬ k = 0 := fun z => hok.1 (by rw [h2]; exact z)
  have hrow := hok.2
  rw [eJ] at hrow
  have hnL : ¬ isL (t.getD (i + k) 0) := fun z => L_D z hrow.1
  have hlo := lo_eq9 h3 hnL h4
  obtain ⟨k2, r1, r2, r3, r4⟩ := rwG_i (t := t) 300 (i + k) 0
  have hE : i + k + k2 = wdE t i := by
    rw [← eE]
    unfold cE
    rw [eJ, r2]
  have hpos := (rw_pos hrow).2.2
  rw [r2] at hpos
  obtain ⟨v, hv⟩ : ∃ v, v = (rwG t 300 (i + k) 0).1 := ⟨_, rfl⟩
  rw [← hv] at r3
  have hvW : cW t i = v := by
    unfold cW
    rw [eJ, hv]
  have hk2 : k2 ≤ 7 := by
    obtain ⟨k3, rfl⟩ : ∃ q, k2 = q + 1 := ⟨k2 - 1, by omega⟩
    rw [dgG, if_neg (fun z => b01_ne.mp z hrow.1)] at r3
    have hp := dgG_p k3 (i + k + 1) _ v r3
    have hdv : 1 ≤ 10 * 0 + dv (t.getD (i + k) 0) := by
      have h9 := hrow.1
      have h8 : ¬ (t.getD (i + k) 0).toInt = 48 := fun z => hrow.2 (iEq.mpr z)
      unfold isD at h9
      unfold dv
      omega
    have h10 : 10 ^ k3 ≤ (10 * 0 + dv (t.getD (i + k) 0)) * 10 ^ k3 := Nat.le_mul_of_pos_left _ hdv
    refine Classical.byContradiction fun z => ?_
    have : 10 ^ 7 ≤ 10 ^ k3 := Nat.pow_le_pow_right (by decide) (by omega)
    have h7 : (10 : Nat) ^ 7 = 10000000 := by decide
    have := hob.1.2
    rw [hvW] at this
    omega
  have hcv : cv4 t k i = cvG t k i 0 := by
    unfold cv4
    rw [if_pos (by omega)]
  have hcl : cvG t k i 0 ≤ 16384 := by
    have := hob.2.1.2
    rw [h2] at this
    exact this
  unfold icR at h
  rw [hlo, show wdE t i - i - k = k2 by omega, if_neg (by
    rintro (q | q | q | q | q)
    · omega
    · omega
    · omega
    · omega
    · exact hrow.2 q), r3] at h
  have h : (if 1048576 < v ∨ 16384 < cv4 t k i then none else some (v, cv4 t k i)) = none := h
  rw [if_neg (by
    have := hob.1.2
    rw [hvW] at this
    rw [hcv]
    omega)] at h
  cases h
set_option maxRecDepth 100000 in
/-- a word that is a cell -/
theorem wc_y {i w c : Nat} (hi : i < t.length) (hb : bW (t.getD i 0)) (hd : ¬ (t.getD (wdE t i) 0 = 36 ∨ t.getD (wdE t i) 0 = 40 ∨ t.getD (wdE t i) 0 = 33)) (h : icR t i (wdE t i) = some (w, c)) : cOk t i ∧ ¬ bad (t.getD (cE t i) 0) ∧ cE t i = wdE t i ∧ cW t i = w ∧ (cK t i).2.1 = c ∧ cFl t i = 0 := by
  obtain ⟨k, h1, h2, h3, h4, h5⟩ := wd_in hb
  obtain ⟨n1, n2, n3, n4, n5⟩ := wd_nd hb (Or.inr (fun z => hd (Or.inl z)))
  unfold icR at h
  obtain ⟨l, hl⟩ : ∃ l, l = lo t i (wdE t i) := ⟨_, rfl⟩
  rw [← hl] at h
  by_cases c0 : l < 1 ∨ 3 < l ∨ wdE t i - i - l < 1 ∨ 7 < wdE t i - i - l ∨ t.getD (i + l) 0 = 48
  · rw [if_pos c0] at h
    cases h
  · rw [if_neg c0] at h
    have hlL : ∀ q, q < l → isL (t.getD (i + q) 0) := fun q hq => lo_is (by rw [← hl]; exact hq)
    cases hg : dgG t (wdE t i - i - l) (i + l) 0 with
    | none =>
      rw [hg] at h
      cases h
    | some v =>
      rw [hg] at h
      have h : (if 1048576 < v ∨ 16384 < cv4 t l i then none else some (v, cv4 t l i)) = some (w, c) := h
      by_cases c1 : 1048576 < v ∨ 16384 < cv4 t l i
      · rw [if_pos c1] at h
        cases h
      · rw [if_neg c1] at h
        have hvw : v = w := (Prod.mk.inj (Option.some.inj h)).1
        have hcc : cv4 t l i = c := (Prod.mk.inj (Option.some.inj h)).2
        rw [← hvw, ← hcc]
        have hcv : cv4 t l i = cvG t l i 0 := by
          unfold cv4
          rw [if_pos (by omega)]
        rw [hcv] at c1 ⊢
        have hD : isD (t.getD (i + l) 0) := by
          obtain ⟨k3, hk3⟩ : ∃ q, wdE t i - i - l = q + 1 := ⟨wdE t i - i - l - 1, by omega⟩
          rw [hk3, dgG] at hg
          refine Classical.byContradiction fun z => ?_
          rw [if_pos (b01_ne.mpr z)] at hg
          cases hg
        have hnL : ¬ isL (t.getD (i + l) 0) := fun z => L_D z hD
        have eK : cK t i = (l, cvG t l i 0, i + l) := by
          unfold cK
          rw [h5, Nat.add_zero, clG_r l 3 i 0 0 (by omega) hlL (by omega), clG_s hnL, Nat.zero_add]
        have e22 : (cK t i).2.2 = i + l := by rw [eK]
        have eJ : cJ t i = i + l := n1.trans e22
        have eR : rwG t 300 (i + l) 0 = (v, wdE t i) := by
          have hw7 : wdE t i - i - l ≤ 7 := by omega
          rw [rwG_r (wdE t i - i - l) 300 (i + l) 0 v (by omega) hg (by omega), show i + l + (wdE t i - i - l) = wdE t i by omega]
          exact rwG_s fun z => wd_e i (Or.inr (Or.inl z))
        have eE : cE t i = wdE t i := by
          unfold cE
          rw [eJ, eR]
        refine ⟨⟨by rw [eK]; show ¬ l = 0; omega, by rw [eJ]; exact ⟨hD, fun z => c0 (Or.inr (Or.inr (Or.inr (Or.inr z))))⟩⟩, ?_, eE, by unfold cW; rw [eJ, eR], by rw [eK], n2⟩
        rw [eE]
        rintro (q | q | q)
        · exact wd_e i q
        · exact hd (Or.inr (Or.inl q))
        · exact hd (Or.inr (Or.inr q))
set_option maxRecDepth 100000 in
/-- a word with $ behind it, letters alone -/
theorem wc_d {i m : Nat} {F : List Fw} (hb : bW (t.getD i 0)) (hd : t.getD (wdE t i) 0 = 36) (hg : ¬ (lo t i (wdE t i) < wdE t i - i ∨ 3 < lo t i (wdE t i) ∨ 16384 < cv4 t (lo t i (wdE t i)) i)) : mDol t F m i (wdE t i) = mCell t F m (-1) i ∧ (cK t i).2.2 = wdE t i ∧ ¬ (cK t i).1 = 0 ∧ ¬ isL (t.getD (cK t i).2.2 0) ∧ cJ t i = wdE t i + 1 := by
  obtain ⟨k, h1, h2, h3, h4, h5⟩ := wd_in hb
  have hgt := wd_gt hb
  obtain ⟨l, hl⟩ : ∃ l, l = lo t i (wdE t i) := ⟨_, rfl⟩
  have hlb := lo_b t i (wdE t i)
  have hle : l = wdE t i - i := by omega
  have hlL : ∀ q, q < l → isL (t.getD (i + q) 0) := fun q hq => lo_is (by rw [← hl]; exact hq)
  have hcv : cv4 t l i = cvG t l i 0 := by
    unfold cv4
    rw [if_pos (by omega)]
  have hnL : ¬ isL (t.getD (wdE t i) 0) := fun z => wd_e i (Or.inl z)
  have eK : cK t i = (l, cvG t l i 0, wdE t i) := by
    unfold cK
    rw [h5, Nat.add_zero, clG_r l 3 i 0 0 (by omega) hlL (by rw [← hcv, hl]; omega), show i + l = wdE t i by omega, clG_s hnL, Nat.zero_add]
  have ed : dlR t (wdE t i) = 1 := if_pos hd
  have e22 : (cK t i).2.2 = wdE t i := by rw [eK]
  have eJ : cJ t i = wdE t i + 1 := by
    unfold cJ
    rw [e22, ed]
  have eF : cFl t i = 1 := by
    unfold cFl
    rw [h5, e22, ed]
  have l0 : ¬ (cK t i).1 = 0 := by
    rw [eK]
    show ¬ l = 0
    omega
  refine ⟨?_, e22, l0, by rw [e22]; exact hnL, eJ⟩
  unfold mDol mCell
  rw [if_neg hg, ed]
  by_cases c : rowB t (wdE t i + 1)
  · have hok : cOk t i := ⟨l0, by rw [eJ]; exact c⟩
    rw [if_neg (fun z => b01_ne.mp z c), if_neg (fun z => b01_ne.mp z hok), ← hl, hcv]
    unfold cE cW
    rw [eJ, eF, eK]
  · have hok : ¬ cOk t i := fun z => c (by rw [← eJ]; exact z.2)
    rw [if_pos (b01_ne.mpr c), if_pos (b01_ne.mpr hok)]
    unfold cB
    rw [if_neg l0, eJ]
set_option maxRecDepth 100000 in
/-- a word with $ behind it, not letters alone: nothing passes the $ -/
theorem wc_x {i : Nat} (hb : bW (t.getD i 0)) (hg : lo t i (wdE t i) < wdE t i - i ∨ 3 < lo t i (wdE t i) ∨ 16384 < cv4 t (lo t i (wdE t i)) i) : (cK t i).2.2 < wdE t i := by
  obtain ⟨k, h1, h2, h3, h4, h5⟩ := wd_in hb
  have e22 : (cK t i).2.2 = i + k := by rw [h2]
  rw [e22]
  refine Classical.byContradiction fun z => ?_
  have hk : i + k = wdE t i := by omega
  have hlo := lo_eq9 h3 (by rw [hk]; exact fun q => wd_e i (Or.inl q)) h4
  rw [hlo] at hg
  have hcv : cv4 t k i = cvG t k i 0 := by
    unfold cv4
    rw [if_pos (by omega)]
  have hcl : cvG t k i 0 ≤ 16384 := by
    by_cases hi : i ≤ t.length
    · have := (cK_b (t := t) hi).2.1
      rw [h2] at this
      exact this
    · exfalso
      have : t.getD i 0 = 0 := getD_out (by omega)
      rw [this] at hb
      unfold bW isL at hb
      exact absurd hb (by decide)
  rw [hcv] at hg
  omega
end WD
end
section
/-! the reader of FormulaTrees, exactly: states while it reads, references, words -/
def wn (cur : List NN) (fr : Int32) (lc : Nat) : Int32 := if cur.isEmpty = true then (if fr = 0 then 1 else 0) else (if lc = 1 then 5 else 4)
def XI (s : aS) (b : Nat) (t : List Int32) (ns : List (List Int32)) (j : Nat) (F : List Fw) (cur : List NN) (fr : Int32) (lc : Nat) : Prop := KS s b t ns ∧ TR s b j (flC F ++ cur) ∧ PB s (pO F) (bO F) ∧ sI s 106 7 = Int32.ofNat j ∧ sI s 106 8 = -1 ∧ sI s 106 9 = wn cur fr lc ∧ (cur ≠ [] → sI s 106 10 = Int32.ofNat (flC F).length)
def XR (s : aS) (b : Nat) (t : List Int32) (ns : List (List Int32)) (j : Nat) (F : List Fw) (x : Int32) : Prop := KS s b t ns ∧ TR s b j (flC F) ∧ PB s (pO F) (bO F) ∧ sI s 106 7 = Int32.ofNat j ∧ sI s 106 8 = -1 ∧ sI s 106 9 = 2 ∧ (∃ f, f < 1000 ∧ sI s 106 11 = Int32.ofNat f) ∧ sI s 106 12 = x
/-- the reference is wrong there, or at the next sign -/
def dead (t : List Int32) (X : Nat ⊕ St) : Prop := (∃ p, X = .inl p) ∨ ∃ e F n lc, X = .inr (e, F, [n], 0, lc) ∧ bad (t.getD e 0)
/-- how a step of FormulaTrees ends beside the reference's X -/
def OC (b : Nat) (t : List Int32) (ns : List (List Int32)) (F : List Fw) (i : Nat) (X : Nat ⊕ St) (D : Option aS) : Prop := ∃ s', D = some s' ∧
  ((sI s' 106 8 ≠ -1 ∧ dead t X) ∨
   (∃ z, X = .inr z ∧ XI s' b t ns z.1 z.2.1 z.2.2.1 z.2.2.2.1 z.2.2.2.2) ∨
   (∃ j x, XR s' b t ns j F x ∧ i ≤ j ∧ j ≤ t.length ∧ ((X = mCell t F (fl F).length x j ∧ (flC F).length < 128) ∨ ((∃ p, X = .inl p) ∧ ((flC F).length = 128 ∨ (cOk t j → ¬ bad (t.getD (cE t j) 0) → t.getD (cE t j) 0 = 36))))) ∨
   (∃ e n, XI s' b t ns e F [n] 0 0 ∧ e ≤ t.length ∧ t.getD e 0 = 36 ∧ ∃ p, X = .inl p))
set_option maxRecDepth 100000 in
theorem gr_gr (x : Int32) : gr (gr x) = gr x := by
  have l1 : ∀ x : Int32, x < 97 ↔ x.toInt < 97 := fun x => iLt
  have l2 : 122 < x ↔ 122 < x.toInt := iLt
  by_cases a : x < 97
  · have e : gr x = x := if_pos a
    rw [e, e]
  · by_cases c : 122 < x
    · have e : gr x = x := by unfold gr; rw [if_neg a, if_pos c]
      rw [e, e]
    · have e : gr x = x - 32 := by unfold gr; rw [if_neg a, if_neg c]
      have a : ¬ x.toInt < 97 := fun z => a ((l1 x).mpr z)
      have c : ¬ 122 < x.toInt := fun z => c (l2.mpr z)
      have e2 : (x - 32).toInt = x.toInt - 32 := iSub (y := 32) (by show _ ≤ x.toInt - 32; omega) (by show x.toInt - 32 ≤ _; omega)
      rw [e]
      unfold gr
      rw [if_pos ((l1 _).mpr (by omega))]
set_option maxRecDepth 100000 in
theorem fnd_gr {u : List Int32} : ∀ {ns : List (List Int32)} {k : Nat}, fndF (u.map gr) ns k = fndF u ns k
  | [], k => rfl
  | n :: r, k => by
    show (if b01 (lk n (u.map gr)) = 0 then fndF (u.map gr) r (k + 1) else Int32.ofNat k) = (if b01 (lk n u) = 0 then fndF u r (k + 1) else Int32.ofNat k)
    have e : (u.map gr).map gr = u.map gr := by
      rw [List.map_map]
      exact List.map_congr_left fun x _ => gr_gr x
    have e2 : b01 (lk n (u.map gr)) = b01 (lk n u) := b01_c (by unfold lk; rw [e])
    rw [e2, fnd_gr]
section XX
variable {s s1 : aS} {b i : Nat} {t : List Int32} {ns : List (List Int32)} {F : List Fw} {cur : List NN} {fr : Int32} {lc : Nat}
set_option maxRecDepth 100000 in
theorem pbO {P : List (Int32 × Nat)} {B : List (Nat × Int32 × Nat)} (h : PB s P B) (hb : b = 102 ∨ 149 ≤ b) (g : ch (aO b) s s1) : PB s1 P B := h.of g (fun a k z => by unfold aO at z; omega)
set_option maxRecDepth 100000 in
/-- wrong -/
theorem OC.w {X : Nat ⊕ St} {D : Option aS} (h : Wr b s D) (hX : dead t X) : OC b t ns F i X D := by
  obtain ⟨s', e1, e2, -⟩ := h
  exact ⟨s', e1, Or.inl ⟨e2, hX⟩⟩
set_option maxRecDepth 100000 in
theorem dead.l {p : Nat} : dead t (.inl p) := Or.inl ⟨p, rfl⟩
set_option maxRecDepth 100000 in
/-- a token with one node -/
theorem OC.n {z lc : Nat} {n : NN} {w : Int32} {D : Option aS} (h : XI s b t ns i F [] fr 0) (hN : Nw b s z (flC F) n w D) (hw : w = if lc = 1 then 5 else 4) : OC b t ns F i (.inr (z, F, [n], 0, lc)) D := by
  obtain ⟨s', e1, e2, e3, e4, e5, e6, e7⟩ := hN
  refine ⟨s', e1, Or.inr (Or.inl ⟨_, rfl, h.1.of (b := b) (e7.mono fun a k z => aOC z), e2, pbO h.2.2.1 (xb h.1) e7, e3, e4, ?_, fun _ => e6⟩)⟩
  rw [e5, hw]
  rfl
set_option maxRecDepth 100000 in
theorem OC.bx {X : Nat ⊕ St} {D : Option aS} (h : OC b t ns F i X D) : OC b t ns F i X (bu D fun s4 => some s4) := by
  obtain ⟨s', e1, e2⟩ := h
  exact ⟨s', by rw [e1]; rfl, e2⟩
set_option maxRecDepth 100000 in
/-- a token -/
theorem OC.tk {z : Nat} {n : NN} {X : Prop} {Y : Nat ⊕ St} {D : Option aS} (h : XI s b t ns i F [] fr 0) (hT : Tk b s (flC F) X z n D) (h1 : ¬ X ∨ (flC F).length = 128 → ∃ p, Y = .inl p) (h2 : X → (flC F).length < 128 → Y = .inr (z, F, [n], 0, 0)) : OC b t ns F i Y D := by
  rcases hT with ⟨q1, q2⟩ | ⟨q1, q2, q3⟩
  · exact OC.w q2 (Or.inl (h1 q1))
  · rw [h2 q1 q2]
    exact OC.n h q3 rfl
set_option maxRecDepth 100000 in
theorem XI.tr (h : XI s b t ns i F [] fr 0) : TR s b i (flC F) := by
  have := h.2.1
  rw [List.append_nil] at this
  exact this
set_option maxRecDepth 100000 in
/-- a reference is wanted -/
theorem OC.r {j f : Nat} {x : Int32} {X : Nat ⊕ St} (h : XI s b t ns i F [] fr 0) (h0 : KS s1 b t ns) (g : ch (aO b) s s1) (hT : TR s1 b i (flC F)) (h7 : sI s1 106 7 = Int32.ofNat j) (h8 : sI s1 106 8 = -1) (hij : i ≤ j) (hj : j ≤ t.length) (hf : f < 1000) (hX : (X = mCell t F (fl F).length x j ∧ (flC F).length < 128) ∨ ((∃ p, X = .inl p) ∧ ((flC F).length = 128 ∨ (cOk t j → ¬ bad (t.getD (cE t j) 0) → t.getD (cE t j) 0 = 36)))) : OC b t ns F i X (dm112 (Int32.ofNat f) x s1) := by
  have hb := xb h.1
  have g2 : ch (fun a k => a = 106 ∧ 9 ≤ k) s1 (wI (wI (wI s1 106 11 (Int32.ofNat f)) 106 12 x) 106 9 2) := (((ch.refl _ s1).wI (by omega)).wI (by omega)).wI (by omega)
  refine ⟨_, rfl, Or.inr (Or.inr (Or.inl ⟨j, x, ⟨h0.of (b := b) (g2.mono fun a k z => by unfold AC; omega), ((hT.up hij).of g2 (by omega) (fun k => by omega) (by omega) (fun k => by omega)), (pbO h.2.2.1 hb g).of g2 (fun a k z => by omega), (g2.i (by omega)).trans h7, (g2.i (by omega)).trans h8, by rw [sI_wI, if_pos ⟨rfl, rfl⟩], ⟨f, hf, by rw [sI_wI, if_neg (by omega), sI_wI, if_neg (by omega), sI_wI, if_pos ⟨rfl, rfl⟩]⟩, by rw [sI_wI, if_neg (by omega), sI_wI, if_pos ⟨rfl, rfl⟩]⟩, hij, hj, hX⟩))⟩
set_option maxRecDepth 100000 in
theorem fl8 (h : XI s b t ns i F [] fr 0) : (flC F).length ≤ 128 := h.tr.2.1
set_option maxRecDepth 100000 in
/-- which side has room -/
theorem pr_l {p : Nat} (h : (flC F).length = 128) : mPrim t ns F (fl F).length p = .inl p := by
  unfold mPrim
  rw [if_pos (Or.inr (by rw [← flC_len]; exact h))]
set_option maxRecDepth 100000 in
theorem pr_t {p : Nat} (h : (flC F).length < 128) (hp : prB (t.getD p 0)) : mPrim t ns F (fl F).length p = mTok t ns F (fl F).length p := by
  unfold mPrim
  rw [if_neg (by
    rintro (q | q)
    · exact b01_ne.mp q hp
    · rw [← flC_len] at q
      omega)]
set_option maxRecDepth 100000 in
/-- behind the prefix that is held, at the ! -/
theorem x114 {hd : List Int32} {e f : Nat} (h : XI s b t ns i F [] fr 0) (h0 : KS s1 b t ns) (g : ch (aO b) s s1) (hT : TR s1 b i (flC F)) (hh : HH s1 hd) (h7 : sI s1 106 7 = Int32.ofNat e) (h8 : sI s1 106 8 = -1) (hie : i ≤ e) (he : e < t.length) (hf : f < 1000) (Y : Nat ⊕ St) (hY : Y = if (flC F).length = 128 then .inl i else mSh t F (fl F).length (fndF hd ns 0) f e (mCell t F (fl F).length (fndF hd ns 0) (e + 1))) : OC b t ns F i Y (dm114 (Int32.ofNat f) s1) := by
  have hl := h.1.1.2.1
  have hb := xb h.1
  have h8l := fl8 h
  have e32 : dm32 107 s1 = some (fndF hd ns 0) := d32 h0.2.2.1 h0.2.2.2.2.1 h0.2.2.2.1 hh.1 (by show hd.length ≤ (sT s1 108).2; rw [h0.2.1.2.2.2.2]; exact hh.2.1) (by have := hh.2.1; omega)
  have hfr := fnd_r (u := hd) h0.2.2.2.1
  unfold dm114
  rw [e32]
  simp only [bu_some]
  by_cases c : fndF hd ns 0 = -1
  · rw [if_pos c, nx_eq]
    refine OC.w (s := s1) ⟨_, rfl, by rw [sI_wI, if_pos ⟨rfl, rfl⟩]; exact nm1 (by omega), (ch.refl _ s1).wI (by unfold aO; omega)⟩ (Or.inl ?_)
    rw [hY]
    split
    · exact ⟨_, rfl⟩
    · unfold mSh
      rw [c, if_neg (by decide)]
      exact ⟨_, rfl⟩
  · rw [if_neg c, h7, ofNat_succ (by omega), nx_eq]
    have g2 : ch a7 s1 (wI s1 106 7 (Int32.ofNat (e + 1))) := (ch.refl _ s1).wI ⟨rfl, rfl⟩
    have hx0 : 0 ≤ fndF hd ns 0 := by
      rw [iLe]
      show (0 : Int) ≤ _
      have : ¬ (fndF hd ns 0).toInt = -1 := fun z => c (iEq.mpr z)
      omega
    refine (OC.r h (h0.of (b := b) (g2.mono fun a k z => a7C z)) (g.trans (g2.mono fun a k z => a7O z)) (trO hT hb g2 (fun a k z => by unfold a7 at z; omega)) (by rw [sI_wI, if_pos ⟨rfl, rfl⟩]) ((g2.i (by unfold a7; omega)).trans h8) (by omega) (by omega) hf ?_).bx
    by_cases c8 : (flC F).length = 128
    · right
      rw [hY, if_pos c8]
      exact ⟨⟨_, rfl⟩, Or.inl c8⟩
    · left
      rw [hY, if_neg c8]
      unfold mSh
      rw [if_pos hx0]
      exact ⟨rfl, by omega⟩
set_option maxRecDepth 100000 in
/-- a prefix in quotes -/
theorem x113 (h : XI s b t ns i F [] fr 0) (hi : i < t.length) (hc : t.getD i 0 = 39) : OC b t ns F i (mPrim t ns F (fl F).length i) (dm113 s) := by
  have hl := h.1.1.2.1
  have hb := xb h.1
  have h8l := fl8 h
  have hY : mPrim t ns F (fl F).length i = if (flC F).length = 128 then .inl i else mPre t ns F (fl F).length i := by
    by_cases c8 : (flC F).length = 128
    · rw [pr_l c8, if_pos c8]
    · rw [if_neg c8, pr_t (by omega) (by rw [hc]; exact Or.inr (Or.inr (Or.inr (Or.inr (Or.inr (Or.inr rfl))))))]
      unfold mTok
      rw [hc, if_neg (by rw [b01_f (by unfold isD; decide)]; decide), if_neg (by decide), if_neg (by decide), if_pos rfl]
  rw [hY]
  unfold dm113 dm113_18 mPre
  rcases x105 (q := 39) (by decide) (by decide) h.1 h.2.2.2.1 hi with ⟨e1, s2, e, e2, e4, e5, e3⟩ | ⟨u, e, s2, e1, e2, e3, e4, e5, e6, e7⟩
  · rw [e2, e1]
    simp only [bv_some]
    rw [if_pos trivial, nx_eq]
    refine OC.w (Wr.set (b := b) e4 (by omega)) (Or.inl ?_)
    split <;> exact ⟨_, rfl⟩
  · have K2 := h.1.of (b := b) (e7.mono fun a k z => aQC z)
    rw [e2, e1]
    simp only [bv_some]
    rw [if_neg (show ¬ (1 : Int32) = 0 by decide), e4, x34 K2 (by omega)]
    simp only [bu_some]
    by_cases c : t.getD e (-1) = 33
    · have c0 : t.getD e 0 = 33 := (gd_eq (by decide) (by decide)).mp c
      have hel : e < t.length := in_of (p := fun x => x = 33) (d := -1) (by decide) c
      rw [if_pos c, h.2.2.2.1]
      refine (x114 h K2 (e7.mono fun a k z => aQO z) (trO h.tr hb e7 (fun a k z => by unfold aQ at z; omega)) e3 e4 ((e7.i (by unfold aQ; omega)).trans h.2.2.2.2.1) (by omega) hel (by omega) _ ?_).bx
      show (if (flC F).length = 128 then (.inl i : Nat ⊕ St) else if t.getD e 0 = 33 then mSh t F (fl F).length (fndF u ns 0) i e (mCell t F (fl F).length (fndF u ns 0) (e + 1)) else .inl e) = _
      rw [if_pos c0]
    · have c0 : ¬ t.getD e 0 = 33 := fun z => c ((gd_eq (by decide) (by decide)).mpr z)
      rw [if_neg c, nx_eq]
      refine OC.w (s := s2) ⟨_, rfl, by rw [sI_wI, if_pos ⟨rfl, rfl⟩]; exact nm1 (by omega), (ch.refl _ s2).wI (by unfold aO; omega)⟩ (Or.inl ?_)
      show ∃ p, (if (flC F).length = 128 then (.inl i : Nat ⊕ St) else if t.getD e 0 = 33 then mSh t F (fl F).length (fndF u ns 0) i e (mCell t F (fl F).length (fndF u ns 0) (e + 1)) else .inl e) = .inl p
      rw [if_neg c0]
      split <;> exact ⟨_, rfl⟩
end XX
end
section
/-! the reader of FormulaTrees, exactly: words and brackets -/
set_option maxRecDepth 100000 in
noncomputable def nmN (t : List Int32) (m i e : Nat) : NN := if b01 (e = i + 4 ∧ spQ t trL i 4 0) = 0 then (if b01 (e = i + 5 ∧ spQ t faL i 5 0) = 0 then (m, plF 6 0, (sl t i e).map gr) else (m, setN (plF 3 0) 8 0, [])) else (m, setN (plF 3 0) 8 1, [])
set_option maxRecDepth 100000 in
theorem mNam_e {t : List Int32} {F : List Fw} {m i e : Nat} : mNam t F m i e = .inr (e, F, [nmN t m i e], 0, 0) := rfl
section XX
variable {s s1 : aS} {b i : Nat} {t : List Int32} {ns : List (List Int32)} {F : List Fw} {cur : List NN} {fr : Int32} {lc : Nat} {M : List NN}
set_option maxRecDepth 100000 in
theorem slg_len {i e : Nat} (h1 : i ≤ e) (h2 : e ≤ t.length) : ((sl t i e).map gr).length = e - i := by
  unfold sl
  rw [List.length_map, List.length_take, List.length_drop]
  omega
set_option maxRecDepth 100000 in
theorem tr_1 {i e : Nat} (h : ¬ (b01 (e = i + 4 ∧ spQ t trL i 4 0) = 0)) : trI t i e = 1 := by
  have q : e = i + 4 ∧ spQ t trL i 4 0 := Classical.byContradiction fun z => h (b01_ne.mpr z)
  unfold trI
  rw [if_pos ⟨q.1, b01_t q.2⟩]
set_option maxRecDepth 100000 in
theorem tr_0 {i e : Nat} (h : b01 (e = i + 4 ∧ spQ t trL i 4 0) = 0) (h2 : ¬ (b01 (e = i + 5 ∧ spQ t faL i 5 0) = 0)) : trI t i e = 0 := by
  have q : e = i + 5 ∧ spQ t faL i 5 0 := Classical.byContradiction fun z => h2 (b01_ne.mpr z)
  unfold trI
  rw [if_neg (fun z => by omega), if_pos ⟨q.1, b01_t q.2⟩]
set_option maxRecDepth 100000 in
theorem tr_n {i e : Nat} (h : b01 (e = i + 4 ∧ spQ t trL i 4 0) = 0) (h2 : b01 (e = i + 5 ∧ spQ t faL i 5 0) = 0) : trI t i e = -1 := by
  unfold trI
  rw [if_neg (fun z => b01_ne.mp h ⟨z.1, Classical.byContradiction fun q => by rw [b01_f q] at z; exact absurd z.2 (by decide)⟩), if_neg (fun z => b01_ne.mp h2 ⟨z.1, Classical.byContradiction fun q => by rw [b01_f q] at z; exact absurd z.2 (by decide)⟩)]
set_option maxRecDepth 100000 in
/-- a name, or a truth -/
theorem x124n {e q : Nat} (h : KS s b t ns) (hT : TR s b i M) (hie : i ≤ e) (he : e ≤ t.length) (hw : sI s 106 8 = -1) : Tk b s M True e (nmN t q i e) (dm124 (Int32.ofNat i) (Int32.ofNat e) 0 s) := by
  have hl := h.1.2.1
  have hb := xb h
  have e48 : dm48 79 (Int32.ofNat i) (Int32.ofNat e) s = some (trI t i e, s) := d48 h.1.1 (by show t.length ≤ (sT s 80).2; rw [h.1.2.2.2]; exact hl) (by omega) h.2.2.2.2.2.1 (by omega) (by omega)
  have g : ch a7 s (wI s 106 7 (Int32.ofNat e)) := (ch.refl _ s).wI ⟨rfl, rfl⟩
  have K := h.of (b := b) (g.mono fun a k z => a7C z)
  have T := trO hT hb g (fun a k z => by unfold a7 at z; omega)
  have f7 : sI (wI s 106 7 (Int32.ofNat e)) 106 7 = Int32.ofNat e := by rw [sI_wI, if_pos ⟨rfl, rfl⟩]
  have fw : sI (wI s 106 7 (Int32.ofNat e)) 106 8 = -1 := (g.i (by unfold a7; omega)).trans hw
  unfold dm124
  rw [if_pos rfl, e48]
  simp only [bv_some]
  unfold dm124_9
  rw [nx_eq]
  unfold nmN
  by_cases c1 : b01 (e = i + 4 ∧ spQ t trL i 4 0) = 0
  · rw [if_pos c1]
    by_cases c2 : b01 (e = i + 5 ∧ spQ t faL i 5 0) = 0
    · rw [if_pos c2, tr_n c1 c2, if_pos rfl]
      obtain ⟨s3, a1, a2, a3⟩ := x122 K hie he
      rw [a1]
      simp only [bu_some]
      rw [if_pos trivial]
      unfold dm124_32
      have K3 := K.of (b := b) (a3.mono fun a k z => aHC z)
      have := (kp (q := q) K3 (trO T hb a3 (fun a k z => by unfold aH at z; omega)) a2 (i := e) (by rw [slg_len hie he]; omega) (by omega) ((a3.i (by unfold aH; omega)).trans f7) ((a3.i (by unfold aH; omega)).trans fw) 6 (f := i) (by omega) trivial).bk (s := s) ((g.mono fun a k z => a7O z).trans (a3.mono fun a k z => aHO z))
      have e9 : ∀ D : Option aS, (Option.bind D fun s3 => some s3) = D := fun D => by cases D <;> rfl
      rcases this with ⟨q1, s4, q2, q3⟩ | ⟨q1, q2, s4, q3, q4⟩
      · rw [q2]
        simp only [bu_some]
        rw [if_pos trivial]
        exact Or.inl ⟨q1, s4, rfl, q3⟩
      · rw [q3]
        simp only [bu_some]
        rw [if_pos trivial]
        exact Or.inr ⟨q1, q2, s4, rfl, q4⟩
    · rw [if_neg c2, tr_0 c1 c2, if_neg (by decide)]
      exact ((kv K T hie f7 fw 3 0 (by omega) trivial).bk (g.mono fun a k z => a7O z)).bx
  · rw [if_neg c1, tr_1 c1, if_neg (by decide)]
    exact ((kv K T hie f7 fw 3 1 (by omega) trivial).bk (g.mono fun a k z => a7O z)).bx
def aP (a k : Nat) : Prop := (a = 106 ∧ (k = 7 ∨ k = 9)) ∨ (113 ≤ a ∧ a ≤ 116)
set_option maxRecDepth 100000 in
/-- a bracket opened -/
theorem x115 {P : List (Int32 × Nat)} {B : List (Nat × Int32 × Nat)} {pl j : Nat} {v : Int32} (hB : PB s P B) (h7 : sI s 106 7 = Int32.ofNat j) (hj : j < 1000) : (B.length = 32 ∧ ∃ s', dm115 (Int32.ofNat pl) v s = some s' ∧ sI s' 106 8 ≠ -1) ∨ (B.length < 32 ∧ ∃ s', dm115 (Int32.ofNat pl) v s = some s' ∧ PB s' P ((pl, v, P.length) :: B) ∧ sI s' 106 7 = Int32.ofNat (j + 1) ∧ sI s' 106 9 = (if v = -1 then 1 else 0) ∧ ch aP s s') := by
  have hle := hB.2.2.1
  unfold dm115
  rw [x82 hB]
  simp only [bu_some]
  by_cases c : B.length < 32
  · right
    rw [if_pos (show Int32.ofNat B.length < 32 from (nlt_iff (b := 32) (by omega) (by omega)).mpr c)]
    unfold dm116
    simp only [bu_some]
    rw [hB.1.1]
    obtain ⟨s2, a1, a2, a3⟩ := x117 (x := pl) (y := P.length) (v := v) hB c
    rw [a1]
    simp only [bu_some]
    have f25 : ∀ y : Int32, ∃ s', dm115_25 y s2 = some s' ∧ PB s' P ((pl, v, P.length) :: B) ∧ sI s' 106 7 = Int32.ofNat (j + 1) ∧ sI s' 106 9 = y ∧ ch aP s s' := by
      intro y
      unfold dm115_25
      simp only [nx_eq]
      have e7 : sI (wI s2 106 9 y) 106 7 = Int32.ofNat j := by rw [sI_wI, if_neg (by omega), a3.i (by omega)]; exact h7
      rw [e7, ofNat_succ (by omega)]
      have g2 : ch (fun a k => a = 106 ∧ (k = 7 ∨ k = 9)) s2 (wI (wI s2 106 9 y) 106 7 (Int32.ofNat (j + 1))) := ((ch.refl _ s2).wI (by omega)).wI (by omega)
      exact ⟨_, rfl, a2.of g2 (fun a k z => by omega), by rw [sI_wI, if_pos ⟨rfl, rfl⟩], by rw [sI_wI, if_neg (by omega), sI_wI, if_pos ⟨rfl, rfl⟩], (a3.mono fun a k z => by unfold aP; omega).trans (g2.mono fun a k z => by unfold aP; omega)⟩
    refine ⟨c, ?_⟩
    by_cases cv : v = -1
    · rw [if_pos cv]
      obtain ⟨s', q1, q2, q3, q4, q5⟩ := f25 1
      exact ⟨s', q1, q2, q3, by rw [q4, if_pos cv], q5⟩
    · rw [if_neg cv]
      obtain ⟨s', q1, q2, q3, q4, q5⟩ := f25 0
      exact ⟨s', q1, q2, q3, by rw [q4, if_neg cv], q5⟩
  · left
    rw [if_neg (show ¬ Int32.ofNat B.length < 32 from fun z => c ((nlt_iff (b := 32) (by omega) (by omega)).mp z)), nx_eq]
    refine ⟨by omega, _, rfl, ?_⟩
    rw [sI_wI, if_pos ⟨rfl, rfl⟩, h7]
    exact nm1 (by omega)
set_option maxRecDepth 100000 in
theorem aPt {z : Nat} (hT : TR s b z M) (hb : b = 102 ∨ 149 ≤ b) (g : ch aP s s1) : TR s1 b z M := hT.of g (by unfold aP; omega) (fun k => by unfold aP; omega) (by unfold aP; omega) (fun k => by unfold aP; omega)
set_option maxRecDepth 100000 in
theorem aPC {a k : Nat} (h : aP a k) : AC b a k := by unfold aP at h; unfold AC; omega
set_option maxRecDepth 100000 in
/-- a call's word, and its bracket -/
theorem x124c {e : Nat} (h : XI s b t ns i F [] fr 0) (hie : i ≤ e) (he : e < t.length) : OC b t ns F i (if (flC F).length = 128 then .inl i else mCal t F (fl F).length i e) (dm124 (Int32.ofNat i) (Int32.ofNat e) 1 s) := by
  have hl := h.1.1.2.1
  have hb := xb h.1
  have h8l := fl8 h
  have g : ch a7 s (wI s 106 7 (Int32.ofNat e)) := (ch.refl _ s).wI ⟨rfl, rfl⟩
  have K := h.1.of (b := b) (g.mono fun a k z => a7C z)
  have T := trO h.tr hb g (fun a k z => by unfold a7 at z; omega)
  have f7 : sI (wI s 106 7 (Int32.ofNat e)) 106 7 = Int32.ofNat e := by rw [sI_wI, if_pos ⟨rfl, rfl⟩]
  have fw : sI (wI s 106 7 (Int32.ofNat e)) 106 8 = -1 := (g.i (by unfold a7; omega)).trans h.2.2.2.2.1
  obtain ⟨s3, a1, a2, a3⟩ := x122 K hie (by omega)
  have K3 := K.of (b := b) (a3.mono fun a k z => aHC z)
  have gs : ch (aO b) s s3 := (g.mono fun a k z => a7O z).trans (a3.mono fun a k z => aHO z)
  unfold dm124
  rw [if_neg (show ¬ (1 : Int32) = 0 by decide)]
  unfold dm124_9
  rw [nx_eq, if_pos rfl, a1]
  simp only [bu_some]
  rw [if_neg (show ¬ (1 : Int32) = 0 by decide)]
  unfold dm124_32
  have tk := (kp (q := (fl F).length) (X := True) K3 (trO T hb a3 (fun a k z => by unfold aH at z; omega)) a2 (i := e) (by rw [slg_len hie (by omega)]; omega) (by omega) ((a3.i (by unfold aH; omega)).trans f7) ((a3.i (by unfold aH; omega)).trans fw) 7 (f := i) (by omega) trivial).bk (s := s) gs
  rcases tk with ⟨q1, s4, q2, q3, -⟩ | ⟨-, q2, s4, q3, q4, q5, q6, q7, q8, q9⟩
  · have c8 : (flC F).length = 128 := q1.resolve_left (fun z => z trivial)
    rw [q2]
    simp only [bu_some]
    rw [if_pos c8, if_neg (show ¬ (1 : Int32) = 0 by decide), if_neg q3]
    exact ⟨s4, rfl, Or.inl ⟨q3, dead.l⟩⟩
  · rw [q3]
    simp only [bu_some]
    rw [if_neg (show ¬ (flC F).length = 128 by omega), if_neg (show ¬ (1 : Int32) = 0 by decide), if_pos q6, q8]
    have B4 := pbO h.2.2.1 hb q9
    have K4 := h.1.of (b := b) (q9.mono fun a k z => aOC z)
    unfold mCal
    rcases x115 (pl := (flC F).length) (v := 0) B4 q5 (by omega) with ⟨r1, s5, r2, r3⟩ | ⟨r1, s5, r2, r3, r4, r5, r6⟩
    · rw [r2]
      rw [bO_len] at r1
      rw [if_pos r1]
      exact ⟨s5, rfl, Or.inl ⟨r3, dead.l⟩⟩
    · rw [r2]
      rw [bO_len] at r1
      rw [if_neg (by omega)]
      refine ⟨s5, rfl, Or.inr (Or.inl ⟨_, rfl, K4.of (b := b) (r6.mono fun a k z => aPC z), ?_, ?_, r4, (r6.i (by unfold aP; omega)).trans q6, ?_, fun z => absurd rfl z⟩)⟩
      · rw [List.append_nil]
        have e9 : flC ((7, ((fl F).length, plF 7 0, (sl t i e).map gr), [], []) :: F) = flC F ++ [((fl F).length, plF 7 0, (sl t i e).map gr)] := by
          show flC F ++ frC (7, ((fl F).length, plF 7 0, (sl t i e).map gr), [], []) = _
          have : frC (7, ((fl F).length, plF 7 0, (sl t i e).map gr), [], []) = [((fl F).length, setN (plF 7 0) 1 0, (sl t i e).map gr)] := rfl
          rw [this, pl_1]
        rw [e9]
        exact aPt (q4.up (by omega)) hb r6
      · exact r3
      · rw [r5]
        rfl
set_option maxRecDepth 100000 in
/-- a word -/
theorem x123 (h : XI s b t ns i F [] fr 0) (hi : i < t.length) (hbw : bW (t.getD i 0)) : OC b t ns F i (mPrim t ns F (fl F).length i) (dm123 s) := by
  have hl := h.1.1.2.1
  have hb := xb h.1
  have h8l := fl8 h
  have hw1 : bW (t.getD i (-1)) := by rw [gd_in hi]; exact hbw
  have eE : wEnd t i = wdE t i := by
    unfold wEnd wdE
    rw [if_neg (fun z => b01_ne.mp z hw1)]
  have hel : wdE t i ≤ t.length := by rw [← eE]; exact wEnd_le (by omega)
  have hgt := wd_gt hbw
  have e43 : dm43 79 (Int32.ofNat i) s = some (Int32.ofNat (wdE t i)) := by
    rw [← eE]
    exact d43 h.1.1.1 (by show t.length ≤ (sT s 80).2; rw [h.1.1.2.2.2]; exact hl) (by omega) (by omega)
  obtain ⟨e, he⟩ : ∃ e, e = wdE t i := ⟨_, rfl⟩
  have hY : mPrim t ns F (fl F).length i = if (flC F).length = 128 then .inl i else mWord t ns F (fl F).length i := by
    by_cases c8 : (flC F).length = 128
    · rw [pr_l c8, if_pos c8]
    · rw [if_neg c8, pr_t (by omega) (Or.inr (Or.inr (Or.inr (Or.inr (Or.inl hbw)))))]
      have hg : gW (t.getD i 0) := hbw.elim Or.inl (fun q => Or.inr (Or.inr (Or.inl q)))
      have nn : ∀ c : Int32, ¬ bW c → t.getD i 0 ≠ c := fun c hc z => hc (z ▸ hbw)
      unfold mTok
      rw [if_neg (by
        rw [b01_f]
        · decide
        · rintro (q | q)
          · rcases hbw with z | z
            · exact L_D z q
            · rw [z] at q
              unfold isD at q
              exact absurd q (by decide)
          · exact nn 46 (by unfold bW isL; decide) q), if_neg (nn 34 (by unfold bW isL; decide)), if_neg (nn 35 (by unfold bW isL; decide)), if_neg (nn 39 (by unfold bW isL; decide)), if_neg (nn 36 (by unfold bW isL; decide))]
  rw [hY]
  unfold dm123
  rw [h.2.2.2.1, e43]
  simp only [bu_some]
  rw [x34 h.1 (by omega)]
  simp only [bu_some]
  have ge : ∀ c : Int32, c ≠ -1 → c ≠ 0 → (t.getD (wdE t i) (-1) = c ↔ t.getD (wdE t i) 0 = c) := fun c h1 h2 => gd_eq h1 h2
  unfold mWord
  by_cases c40 : t.getD (wdE t i) (-1) = 40
  · have d40 := (ge 40 (by decide) (by decide)).mp c40
    have hin : wdE t i < t.length := in_of (p := fun x => x = 40) (d := -1) (by decide) c40
    rw [if_pos c40, c40, d40, if_neg (show ¬ (40 : Int32) = 36 by decide), if_neg (show ¬ (40 : Int32) = 33 by decide), if_pos rfl]
    unfold dm123_19
    rw [if_neg (show ¬ (40 : Int32) = 33 by decide), if_pos (show (0 : Int32) = 0 from rfl)]
    unfold dm123_48
    rw [if_pos (show (0 : Int32) = 0 from rfl)]
    unfold dm123_61
    rw [if_pos (show (40 : Int32) = 40 from rfl)]
    unfold dm123_70
    exact (x124c h (by omega) hin).bx
  · have d40 : ¬ t.getD (wdE t i) 0 = 40 := fun z => c40 ((ge 40 (by decide) (by decide)).mpr z)
    rw [if_neg c40]
    unfold dm123_19
    by_cases c33 : t.getD (wdE t i) (-1) = 33
    · have d33 := (ge 33 (by decide) (by decide)).mp c33
      have hin : wdE t i < t.length := in_of (p := fun x => x = 33) (d := -1) (by decide) c33
      rw [if_pos c33, d33, if_neg (show ¬ (33 : Int32) = 36 by decide), if_pos rfl]
      obtain ⟨s3, a1, a2, a3⟩ := x122 h.1 (show i ≤ wdE t i by omega) hel
      rw [a1]
      simp only [bu_some, nx_eq]
      have K3 := h.1.of (b := b) (a3.mono fun a k z => aHC z)
      have g4 : ch a7 s3 (wI s3 106 7 (Int32.ofNat (wdE t i))) := (ch.refl _ s3).wI ⟨rfl, rfl⟩
      have T3 := trO h.tr hb a3 (fun a k z => by unfold aH at z; omega)
      have hfd : fndF ((sl t i (wdE t i)).map gr) ns 0 = fndF (sl t i (wdE t i)) ns 0 := fnd_gr
      refine (x114 (hd := (sl t i (wdE t i)).map gr) h (K3.of (b := b) (g4.mono fun a k z => a7C z)) ((a3.mono fun a k z => aHO z).trans (g4.mono fun a k z => a7O z)) (trO T3 hb g4 (fun a k z => by unfold a7 at z; omega)) ⟨a2.1.of g4 (by unfold a7; omega) (fun k => by unfold a7; omega), a2.2⟩ (by rw [sI_wI, if_pos ⟨rfl, rfl⟩]) (((g4.i (by unfold a7; omega)).trans (a3.i (by unfold aH; omega))).trans h.2.2.2.2.1) (by omega) hin (by omega) _ ?_).bx
      rw [hfd]
    · have d33 : ¬ t.getD (wdE t i) 0 = 33 := fun z => c33 ((ge 33 (by decide) (by decide)).mpr z)
      rw [if_neg c33, if_neg (show ¬ (1 : Int32) = 0 by decide)]
      obtain ⟨v, s3, a1, a3, a4⟩ := x89 (j := i) h.1 (by omega)
      have K3 := h.1.of (b := b) (a3.mono fun a k z => a9C z)
      have T3 := trO h.tr hb a3 (fun a k z => by unfold a9 at z; omega)
      have g3 : ch (aO b) s s3 := a3.mono fun a k z => a9O z
      have f7 : sI s3 106 7 = Int32.ofNat i := (a3.i (by unfold a9; omega)).trans h.2.2.2.1
      have fw : sI s3 106 8 = -1 := (a3.i (by unfold a9; omega)).trans h.2.2.2.2.1
      rw [a1]
      simp only [bv_some]
      -- a name (or a truth) is kept
      have keep : ∀ e9, sI s3 109 0 = Int32.ofNat e9 → e9 ≤ wdE t i → ∀ r6 : Int32, ¬ r6 = 40 → ∃ s4, dm123_48 (Int32.ofNat i) (Int32.ofNat (wdE t i)) r6 1 s3 = some s4 ∧ ((sI s4 106 8 ≠ -1 ∧ (flC F).length = 128) ∨ ((flC F).length < 128 ∧ XI s4 b t ns (wdE t i) F [nmN t (fl F).length i (wdE t i)] 0 0)) := by
        intro e9 h9 h9l r6 hr6
        unfold dm123_48 dm93
        rw [if_neg (show ¬ (1 : Int32) = 0 by decide)]
        simp only [bu_some]
        rw [h9, if_pos ((nle_iff (by omega) (by omega)).mpr h9l)]
        unfold dm123_61 dm123_70
        rw [if_neg hr6]
        have tk := (x124n (q := (fl F).length) K3 T3 (show i ≤ wdE t i by omega) hel fw).bk (s := s) g3
        rcases tk with ⟨q1, s4, q2, q3, -⟩ | ⟨-, q2, s4, q3, q4, q5, q6, q7, q8, q9⟩
        · rw [q2]
          exact ⟨s4, rfl, Or.inl ⟨q3, q1.resolve_left (fun z => z trivial)⟩⟩
        · rw [q3]
          exact ⟨s4, rfl, Or.inr ⟨q2, h.1.of (b := b) (q9.mono fun a k z => aOC z), q4, pbO h.2.2.1 hb q9, q5, q6, by rw [q7]; rfl, fun _ => q8⟩⟩
      by_cases d36 : t.getD (wdE t i) 0 = 36
      · rw [if_pos d36]
        have hin : wdE t i < t.length := in_of (p := fun x => x = 36) (d := 0) (by decide) d36
        by_cases hg : lo t i (wdE t i) < wdE t i - i ∨ 3 < lo t i (wdE t i) ∨ 16384 < cv4 t (lo t i (wdE t i)) i
        · -- what is read ends at the $, which is wrong
          have hX : ∃ p, (if (flC F).length = 128 then (.inl i : Nat ⊕ St) else mDol t F (fl F).length i (wdE t i)) = .inl p := by
            unfold mDol
            rw [if_pos hg]
            split <;> exact ⟨_, rfl⟩
          have hx := wc_x hbw hg
          obtain ⟨n1, n2, n3, n4, n5⟩ := wd_nd hbw (Or.inl hx)
          rcases a4 with ⟨b1, b2, b3, b4, b5, b6, b7⟩ | ⟨b1, b2, e9, b3, b4⟩
          · rw [if_neg (show ¬ v = 0 by rw [b1]; decide)]
            refine (OC.r h K3 g3 T3 f7 fw (Nat.le_refl _) (by omega) (by omega) (Or.inr ⟨hX, Or.inr (fun _ z => by rw [n5 z]; exact d36)⟩)).bx
          · rw [if_pos b1]
            obtain ⟨s4, k1, k2⟩ := keep e9 b3 (by
              rcases b4 with ⟨z, -⟩ | z | ⟨z, -⟩
              · omega
              · omega
              · omega) (t.getD (wdE t i) (-1)) c40
            rw [k1]
            rcases k2 with ⟨k2, -⟩ | ⟨-, k2⟩
            · exact ⟨s4, rfl, Or.inl ⟨k2, Or.inl hX⟩⟩
            · exact ⟨s4, rfl, Or.inr (Or.inr (Or.inr ⟨wdE t i, _, k2, hel, d36, hX⟩))⟩
        · obtain ⟨m1, m2, m3, m4, m5⟩ := wc_d (F := F) (m := (fl F).length) hbw d36 hg
          rw [m1]
          rcases a4 with ⟨b1, b2, b3, b4, b5, b6, b7⟩ | ⟨b1, b2, e9, b3, b4⟩
          · rw [if_neg (show ¬ v = 0 by rw [b1]; decide)]
            refine (OC.r h K3 g3 T3 f7 fw (Nat.le_refl _) (by omega) (by omega) ?_).bx
            by_cases c8 : (flC F).length = 128
            · rw [if_pos c8]
              exact Or.inr ⟨⟨_, rfl⟩, Or.inl c8⟩
            · rw [if_neg c8]
              exact Or.inl ⟨rfl, by omega⟩
          · rw [if_pos b1]
            have h9 : wdE t i < e9 ∧ e9 ≤ 1000 := by
              have hcE : e9 = cE t i → cOk t i → e9 ≤ t.length := fun q z => by rw [q]; exact (cOk_b (by omega) z).2.2.2.2
              rcases b4 with ⟨z, z2⟩ | z | ⟨z, z2⟩
              · rcases z2 with z2 | z2
                · exact absurd z2 m3
                · exact absurd z2 m4
              · omega
              · have hok : cOk t i := ⟨m3, z2⟩
                have := (rw_pos z2).2.2
                have h5 := hcE z hok
                rw [z]
                unfold cE
                rw [m5] at this
                constructor
                · rw [m5]
                  omega
                · have h6 : cE t i = (rwG t 300 (cJ t i) 0).2 := rfl
                  omega
            unfold dm123_48 dm93
            rw [if_neg (show ¬ (1 : Int32) = 0 by decide)]
            simp only [bu_some]
            rw [b3, if_neg (show ¬ Int32.ofNat e9 ≤ Int32.ofNat (wdE t i) from fun z => by have := (nle_iff (by omega) (by omega)).mp z; omega), nx_eq]
            refine ⟨_, rfl, Or.inl ⟨by rw [sI_wI, if_pos ⟨rfl, rfl⟩]; exact nm1 (by omega), ?_⟩⟩
            by_cases c8 : (flC F).length = 128
            · rw [if_pos c8]
              exact dead.l
            · rw [if_neg c8]
              unfold mCell
              by_cases hok : cOk t i
              · rw [if_neg (fun z => b01_ne.mp z hok)]
                exact Or.inr ⟨_, _, _, _, rfl, b2.resolve_left (fun z => z hok)⟩
              · rw [if_pos (b01_ne.mpr hok)]
                exact dead.l
      · rw [if_neg d36, if_neg d33, if_neg d40]
        obtain ⟨n1, n2, n3, n4, n5⟩ := wd_nd hbw (Or.inr d36)
        rcases a4 with ⟨b1, b2, b3, b4, b5, b6, b7⟩ | ⟨b1, b2, e9, b3, b4⟩
        · rw [if_neg (show ¬ v = 0 by rw [b1]; decide)]
          refine (OC.r h K3 g3 T3 f7 fw (Nat.le_refl _) (by omega) (by omega) ?_).bx
          by_cases c8 : (flC F).length = 128
          · rw [if_pos c8]
            exact Or.inr ⟨⟨_, rfl⟩, Or.inl c8⟩
          · rw [if_neg c8]
            left
            refine ⟨?_, by omega⟩
            cases hic : icR t i (wdE t i) with
            | none => exact absurd ⟨b2, b3⟩ (wc_n hi hbw d36 hic)
            | some wc =>
              obtain ⟨w, c⟩ := wc
              obtain ⟨-, -, y3, y4, y5, y6⟩ := wc_y hi hbw (by rintro (q | q | q); exact d36 q; exact d40 q; exact d33 q) hic
              show (.inr (wdE t i, F, [((fl F).length, clD (-1) (Int32.ofNat w) (Int32.ofNat c) 0, [])], 0, 1) : Nat ⊕ St) = _
              unfold mCell
              rw [if_neg (fun z => b01_ne.mp z b2), y3, y4, y5, y6]
              rfl
        · rw [if_pos b1]
          have hic : icR t i (wdE t i) = none := by
            cases hic : icR t i (wdE t i) with
            | none => rfl
            | some wc =>
              obtain ⟨w, c⟩ := wc
              obtain ⟨y1, y2, -⟩ := wc_y hi hbw (by rintro (q | q | q); exact d36 q; exact d40 q; exact d33 q) hic
              exact absurd y2 (fun z => (b2.resolve_left (fun q => q y1)) |> z)
          obtain ⟨s4, k1, k2⟩ := keep e9 b3 (by
            rcases b4 with ⟨z, -⟩ | z | ⟨z, -⟩
            · omega
            · omega
            · omega) (t.getD (wdE t i) (-1)) c40
          rw [k1, hic]
          rcases k2 with ⟨k2, k3⟩ | ⟨k3, k2⟩
          · rw [if_pos k3]
            exact ⟨s4, rfl, Or.inl ⟨k2, dead.l⟩⟩
          · rw [if_neg (by omega)]
            exact ⟨s4, rfl, Or.inr (Or.inl ⟨_, mNam_e, k2⟩)⟩
end XX
end
section
/-! the reader of FormulaTrees, exactly: brackets closed, arguments, operators -/
section XX
variable {s s1 : aS} {b i : Nat} {t : List Int32} {ns : List (List Int32)} {F : List Fw} {cur M : List NN} {fr : Int32} {lc : Nat} {P P1 P0 : List (Int32 × Nat)} {B0 : List (Nat × Int32 × Nat)}
/-- what operators and brackets write -/
def aM (b a k : Nat) : Prop := (a = b ∧ k = 2) ∨ a = b + 1 ∨ (a = 106 ∧ (k = 7 ∨ k = 9 ∨ k = 10)) ∨ (110 ≤ a ∧ a ≤ 116)
set_option maxRecDepth 100000 in
theorem aMC {a k : Nat} (h : aM b a k) : AC b a k := by unfold aM at h; unfold AC; omega
set_option maxRecDepth 100000 in
/-- a bracket closed: behind it -/
theorem x77e {pl j : Nat} {v : Int32} (hB : PB s (P1 ++ P0) ((pl, v, P0.length) :: B0)) (h7 : sI s 106 7 = Int32.ofNat j) (hj : j < 1000) : ∃ s', dm77_16 (Int32.ofNat pl) s = some s' ∧ PB s' P0 B0 ∧ sI s' 106 10 = Int32.ofNat pl ∧ sI s' 106 9 = 4 ∧ sI s' 106 7 = Int32.ofNat (j + 1) ∧ ch (fun a k => (a = 106 ∧ (k = 7 ∨ k = 9 ∨ k = 10)) ∨ (a = 110 ∧ k = 2) ∨ (a = 113 ∧ k = 3)) s s' := by
  obtain ⟨s2, a1, a2, a3⟩ := x65 hB
  obtain ⟨s3, b1, b2, b3⟩ := x80 a2
  unfold dm77_16
  rw [x79 hB]
  simp only [bu_some]
  rw [show bS ((pl, v, P0.length) :: B0) = P0.length from rfl, a1]
  simp only [bu_some]
  rw [b1]
  simp only [bu_some]
  unfold dm81
  simp only [bu_some, nx_eq]
  have e7 : sI (wI (wI s3 106 10 (Int32.ofNat pl)) 106 9 4) 106 7 = Int32.ofNat j := by
    rw [sI_wI, if_neg (by omega), sI_wI, if_neg (by omega), b3.i (by omega), a3.i (by omega)]
    exact h7
  rw [e7, ofNat_succ (by omega)]
  have g : ch (fun a k => a = 106 ∧ (k = 7 ∨ k = 9 ∨ k = 10)) s3 (wI (wI (wI s3 106 10 (Int32.ofNat pl)) 106 9 4) 106 7 (Int32.ofNat (j + 1))) := (((ch.refl _ s3).wI (by omega)).wI (by omega)).wI (by omega)
  refine ⟨_, rfl, b2.of g (fun a k z => by omega), ?_, ?_, by rw [sI_wI, if_pos ⟨rfl, rfl⟩], ((a3.mono fun a k z => by omega).trans (b3.mono fun a k z => by omega)).trans (g.mono fun a k z => by omega)⟩
  · rw [sI_wI, if_neg (by omega), sI_wI, if_neg (by omega), sI_wI, if_pos ⟨rfl, rfl⟩]
  · rw [sI_wI, if_neg (by omega), sI_wI, if_pos ⟨rfl, rfl⟩]
set_option maxRecDepth 100000 in
theorem trM {z : Nat} {A : Nat → Nat → Prop} (hT : TR s b z M) (hb : b = 102 ∨ 149 ≤ b) (g : ch A s s1) (hA : ∀ a k, A a k → 106 ≤ a ∧ a ≤ 116) : TR s1 b z M := hT.of g (fun q => by have := hA _ _ q; omega) (fun k q => by have := hA _ _ q; omega) (fun q => by have := hA _ _ q; omega) (fun k q => by have := hA _ _ q; omega)
set_option maxRecDepth 100000 in
/-- brackets of no call -/
theorem x77a {pl j z : Nat} (h : KS s b t ns) (hT : TR s b z M) (hB : PB s (P1 ++ P0) ((pl, -1, P0.length) :: B0)) (h7 : sI s 106 7 = Int32.ofNat j) (hj : j < 1000) : ∃ s', dm77 s = some s' ∧ TR s' b z M ∧ PB s' P0 B0 ∧ sI s' 106 10 = Int32.ofNat pl ∧ sI s' 106 9 = 4 ∧ sI s' 106 7 = Int32.ofNat (j + 1) ∧ ch (aM b) s s' := by
  obtain ⟨s', a1, a2, a3, a4, a5, a6⟩ := x77e hB h7 hj
  unfold dm77
  rw [x78 hB, x73 hB]
  simp only [bu_some]
  rw [show bA ((pl, (-1 : Int32), P0.length) :: B0) = -1 from rfl, if_pos rfl, if_pos rfl, show bP ((pl, (-1 : Int32), P0.length) :: B0) = pl from rfl]
  exact ⟨s', a1, trM hT (xb h) a6 (fun a k z => by omega), a2, a3, a4, a5, a6.mono fun a k z => by unfold aM; omega⟩
set_option maxRecDepth 100000 in
/-- brackets of a call -/
theorem x77b {pl j z : Nat} {v : Int32} {C R : List NN} {n : NN} (h : KS s b t ns) (hT : TR s b z (C ++ n :: R)) (hC : C.length = pl) (hv : v ≠ -1) (hB : PB s (P1 ++ P0) ((pl, v, P0.length) :: B0)) (h7 : sI s 106 7 = Int32.ofNat j) (hj : j < 1000) : ∃ s', dm77 s = some s' ∧ TR s' b z (C ++ (n.1, setN n.2.1 1 v, n.2.2) :: R) ∧ PB s' P0 B0 ∧ sI s' 106 10 = Int32.ofNat pl ∧ sI s' 106 9 = 4 ∧ sI s' 106 7 = Int32.ofNat (j + 1) ∧ ch (aM b) s s' := by
  have hb := xb h
  have c1 : dm60 b (Int32.ofNat pl) 1 v s = some (wI s (b + 1) (11 * C.length + 1) v) := by
    rw [← hC]
    exact x60 (w := 1) hT (by omega)
  have c2 := hT.set (w := 1) (v := v) (by omega)
  have c3 : ch (fun a _ => a = b + 1) s (wI s (b + 1) (11 * C.length + 1) v) := (ch.refl _ s).wI rfl
  have B1 := hB.of c3 (fun a k z => by omega)
  obtain ⟨s', a1, a2, a3, a4, a5, a6⟩ := x77e B1 ((c3.i (by omega)).trans h7) hj
  unfold dm77
  rw [x78 hB, x73 hB]
  simp only [bu_some]
  rw [show bA ((pl, v, P0.length) :: B0) = v from rfl, if_neg hv, if_neg (by decide), (xtr h).1, if_pos (xk h), x74 hB]
  simp only [bu_some]
  rw [show bA ((pl, v, P0.length) :: B0) = v from rfl, show bP ((pl, v, P0.length) :: B0) = pl from rfl, c1]
  simp only [bu_some]
  exact ⟨s', a1, trM c2 hb a6 (fun a k z => by omega), a2, a3, a4, a5, (c3.mono fun a k z => by unfold aM; omega).trans (a6.mono fun a k z => by unfold aM; omega)⟩
set_option maxRecDepth 100000 in
theorem on1 {k : Nat} (h : k < 1000) : Int32.ofNat k + 1 = Int32.ofNat (k + 1) := ofNat_succ (by omega)
set_option maxRecDepth 100000 in
/-- an argument at its end, by ) -/
theorem x75b {pl j z k : Nat} {C R : List NN} {n : NN} (h : KS s b t ns) (hT : TR s b z (C ++ n :: R)) (hC : C.length = pl) (hk : k < 100) (hB : PB s (P1 ++ P0) ((pl, Int32.ofNat k, P0.length) :: B0)) (h7 : sI s 106 7 = Int32.ofNat j) (hj : j < 1000) : ∃ s', dm75 1 s = some s' ∧ TR s' b z (C ++ (n.1, setN n.2.1 1 (Int32.ofNat (k + 1)), n.2.2) :: R) ∧ PB s' P0 B0 ∧ sI s' 106 10 = Int32.ofNat pl ∧ sI s' 106 9 = 4 ∧ sI s' 106 7 = Int32.ofNat (j + 1) ∧ ch (aM b) s s' := by
  have hb := xb h
  obtain ⟨s2, a1, a2, a3⟩ := x76 hB
  have a2 : PB s2 (P1 ++ P0) ((pl, Int32.ofNat k + 1, P0.length) :: B0) := a2
  rw [on1 (by omega)] at a2
  obtain ⟨s3, b1, b2, b3, b4, b5, b6, b7⟩ := x77b (h.of (b := b) (a3.mono fun a k z => by unfold AC; omega)) (trM hT hb a3 (fun a k z => by omega)) hC (nm1 (by omega)) a2 ((a3.i (by omega)).trans h7) hj
  unfold dm75
  rw [if_neg (by decide)]
  unfold dm75_14
  rw [a1]
  simp only [bu_some]
  rw [if_neg (by decide), b1]
  exact ⟨s3, rfl, b2, b3, b4, b5, b6, (a3.mono fun a k z => by unfold aM; omega).trans b7⟩
set_option maxRecDepth 100000 in
/-- an argument at its end, by a comma -/
theorem x75c {pl j z k : Nat} (h : KS s b t ns) (hT : TR s b z M) (hk : k ≤ 28) (hB : PB s (P1 ++ P0) ((pl, Int32.ofNat k, P0.length) :: B0)) (h7 : sI s 106 7 = Int32.ofNat j) (hj : j < 1000) : ∃ s', dm75 0 s = some s' ∧ TR s' b z M ∧ PB s' P0 ((pl, Int32.ofNat (k + 1), P0.length) :: B0) ∧ sI s' 106 9 = 0 ∧ sI s' 106 7 = Int32.ofNat (j + 1) ∧ ch (aM b) s s' := by
  have hb := xb h
  obtain ⟨s2, a1, a2, a3⟩ := x76 hB
  have a2 : PB s2 (P1 ++ P0) ((pl, Int32.ofNat k + 1, P0.length) :: B0) := a2
  rw [on1 (by omega)] at a2
  obtain ⟨s3, b1, b2, b3⟩ := x65 a2
  unfold dm75
  rw [if_pos rfl, x74 hB]
  simp only [bu_some]
  rw [show bA ((pl, Int32.ofNat k, P0.length) :: B0) = Int32.ofNat k from rfl, show Int32.ofNat k + 2 = Int32.ofNat (k + 2) from iSum (i := k) (j := 2) (by omega) (by omega), if_pos (show Int32.ofNat (k + 2) ≤ 30 from (nle_iff (b := 30) (by omega) (by omega)).mpr (by omega))]
  unfold dm75_14
  rw [a1]
  simp only [bu_some]
  rw [if_pos trivial, x79 a2]
  simp only [bu_some]
  rw [show bS ((pl, Int32.ofNat (k + 1), P0.length) :: B0) = P0.length from rfl, b1]
  simp only [bu_some, nx_eq]
  have e7 : sI (wI s3 106 9 0) 106 7 = Int32.ofNat j := by
    rw [sI_wI, if_neg (by omega), b3.i (by omega), a3.i (by omega)]
    exact h7
  rw [e7, ofNat_succ (by omega)]
  have g : ch (fun a k => a = 106 ∧ (k = 7 ∨ k = 9)) s3 (wI (wI s3 106 9 0) 106 7 (Int32.ofNat (j + 1))) := ((ch.refl _ s3).wI (by omega)).wI (by omega)
  exact ⟨_, rfl, trM (trM (trM hT hb a3 (fun a k z => by omega)) hb b3 (fun a k z => by omega)) hb g (fun a k z => by omega), b2.of g (fun a k z => by omega), by rw [sI_wI, if_neg (by omega), sI_wI, if_pos ⟨rfl, rfl⟩], by rw [sI_wI, if_pos ⟨rfl, rfl⟩], ((a3.mono fun a k z => by unfold aM; omega).trans (b3.mono fun a k z => by unfold aM; omega)).trans (g.mono fun a k z => by unfold aM; omega)⟩
set_option maxRecDepth 100000 in
theorem x75w {pl j k : Nat} (hk : k = 29) (hB : PB s P ((pl, Int32.ofNat k, P0.length) :: B0)) (h7 : sI s 106 7 = Int32.ofNat j) (hj : j < 1000) : ∃ s', dm75 0 s = some s' ∧ sI s' 106 8 ≠ -1 := by
  subst hk
  unfold dm75
  rw [if_pos rfl, x74 hB]
  simp only [bu_some]
  rw [show bA ((pl, Int32.ofNat 29, P0.length) :: B0) = Int32.ofNat 29 from rfl, if_neg (by decide), nx_eq]
  exact ⟨_, rfl, by rw [sI_wI, if_pos ⟨rfl, rfl⟩, h7]; exact nm1 (by omega)⟩
set_option maxRecDepth 100000 in
/-- what is nothing between operands -/
theorem x84w {c d : Int32} {j : Nat} (hc : dm83 c d = some (-1)) (h7 : sI s 106 7 = Int32.ofNat j) (hj : j < 1000) : ∃ s', dm84 (-1) s = some s' ∧ sI s' 106 8 ≠ -1 := by
  unfold dm84
  rw [if_pos rfl, nx_eq]
  exact ⟨_, rfl, by rw [sI_wI, if_pos ⟨rfl, rfl⟩, h7]; exact nm1 (by omega)⟩
set_option maxRecDepth 100000 in
theorem x83 (c d : Int32) : dm83 c d = some (if (opk c d).1 = 0 then -1 else Int32.ofNat (opk c d).1) := by
  unfold dm83 opk
  repeat' split
  all_goals first
    | rfl
    | (exfalso; simp_all)
    | simp_all
set_option maxRecDepth 100000 in
theorem x85 : ∀ p ∈ opL, dm85 (Int32.ofNat p.1) = some (rkM (Int32.ofNat p.1)) := by decide
set_option maxRecDepth 100000 in
theorem op_l : ∀ p ∈ opL, (¬ Int32.ofNat p.1 = -1) ∧ isB (Int32.ofNat p.1) ∧ ¬ (Int32.ofNat p.1 = 100 ∨ Int32.ofNat p.1 = 7) ∧ ¬ Int32.ofNat p.1 = 10 ∧ ((Int32.ofNat p.1 = 18 ∨ Int32.ofNat p.1 = 21 ∨ Int32.ofNat p.1 = 22) ↔ p.2 = 2) ∧ (p.2 = 1 ∨ p.2 = 2) := by
  unfold isB
  decide
set_option maxRecDepth 100000 in
/-- an operator between operands -/
theorem x84 {p : Nat × Nat} (h : XI s b t ns i F cur 0 lc) (hF : ∀ f ∈ F, gdF ns f) (hcur : cur ≠ []) (hi : i + p.2 ≤ t.length) (hp : p ∈ opL) (h8 : (flC F ++ cur).length < 128) (q : Nat) : ∃ s', dm84 (Int32.ofNat p.1) s = some s' ∧ XI s' b t ns (i + p.2) ((Int32.ofNat p.1, (q, plF (Int32.ofNat p.1) 0, []), (rdF (rkM (Int32.ofNat p.1)) F cur).2, [hdI (rdF (rkM (Int32.ofNat p.1)) F cur).2]) :: (rdF (rkM (Int32.ofNat p.1)) F cur).1) [] 0 0 := by
  have hl := h.1.1.2.1
  have hb := xb h.1
  obtain ⟨o1, o2, o3, o4, o5, o6⟩ := op_l p hp
  obtain ⟨k, hk⟩ : ∃ k, k = Int32.ofNat p.1 := ⟨_, rfl⟩
  obtain ⟨G, hG⟩ : ∃ G, G = (rdF (rkM k) F cur).1 := ⟨_, rfl⟩
  obtain ⟨c1, hc1⟩ : ∃ c1, c1 = (rdF (rkM k) F cur).2 := ⟨_, rfl⟩
  have e85 := x85 p hp
  rw [← hk] at o1 o2 o3 o4 o5 e85
  rw [← hk, ← hG, ← hc1]
  have efl : flC G ++ c1 = flC F ++ cur := by
    rw [hG, hc1]
    exact rd_fl F cur hF
  have ebO : bO G = bO F := by
    rw [hG]
    exact rd_bO F cur
  have eeF : eF (rkM k) (bS (bO F)) (pO F) (flC F).length = (pO G, (flC G).length) := by
    rw [hG]
    exact rd_pO F cur
  have hbs := bS_le F
  have hpl := pO_len F
  have hlen : (flC F).length ≤ (flC F ++ cur).length := by rw [List.length_append]; omega
  obtain ⟨s2, a1, a2, a3⟩ := x86 (x := rkM k) (base := bS (bO F)) (o := (flC F).length) h.2.2.1 (by omega)
  rw [eeF] at a1 a2
  have K2 := h.1.of (b := b) (a3.mono fun a k z => by unfold AC; omega)
  have T2 : TR s2 b i (flC G ++ c1) := by
    rw [efl]
    exact trM h.2.1 hb a3 (fun a k z => by omega)
  obtain ⟨s3, b1, b2, b3⟩ := x72 (q := q) (kd := k) (c := 2) T2 (by rw [efl]; exact h8)
  have B3 := a2.of b3 (fun a k z => by omega)
  have hpG := pO_len G
  have hG8 : (flC G).length ≤ (flC G ++ c1).length := by rw [List.length_append]; omega
  rw [efl] at hG8
  obtain ⟨s4, c4, c5, c6⟩ := x87 (x := rkM k) (y := (flC G).length) B3 (by show (pO G).length < 128; omega)
  have f7 : sI s4 106 7 = Int32.ofNat i := by
    rw [c6.i (by omega), b3.i (by omega), a3.i (by omega)]
    exact h.2.2.2.1
  have fw : sI s4 106 8 = -1 := by
    rw [c6.i (by omega), b3.i (by omega), a3.i (by omega)]
    exact h.2.2.2.2.1
  have gg : ch (AC b) s s4 := ((a3.mono fun a k z => by unfold AC; omega).trans (b3.mono fun a k z => by unfold AC; omega)).trans (c6.mono fun a k z => by unfold AC; omega)
  have T4 : TR s4 b i (flC G ++ (q, plF k 2, []) :: c1) := trM b2 hb c6 (fun a k z => by omega)
  unfold dm84
  rw [if_neg o1]
  rcases x70 h.1 h.2.1 (sI s 106 7) with ⟨-, e70⟩ | ⟨z, -⟩
  · rw [e70]
    simp only [bv_some]
    rw [if_neg (by decide), e85]
    simp only [bu_some]
    rw [x79 h.2.2.1]
    simp only [bu_some]
    rw [h.2.2.2.2.2.2 hcur, a1]
    simp only [bv_some]
    rw [(xtr K2).1, if_pos (xk K2), b1]
    simp only [bu_some]
    rw [c4]
    simp only [bu_some, nx_eq]
    -- how far it goes on
    have fin : ∀ y, y = p.2 → ∃ s', dm84_61 (sI (wI s4 106 9 1) 106 7) (Int32.ofNat y) (wI s4 106 9 1) = some s' ∧ XI s' b t ns (i + p.2) ((k, (q, plF k 0, []), c1, [hdI c1]) :: G) [] 0 0 := by
      intro y hy
      subst hy
      have e7 : sI (wI s4 106 9 1) 106 7 = Int32.ofNat i := by rw [sI_wI, if_neg (by omega)]; exact f7
      unfold dm84_61
      rw [e7, iSum (by omega) (by omega), nx_eq]
      have g5 : ch (fun a k => a = 106 ∧ (k = 7 ∨ k = 9)) s4 (wI (wI s4 106 9 1) 106 7 (Int32.ofNat (i + p.2))) := ((ch.refl _ s4).wI (by omega)).wI (by omega)
      refine ⟨_, rfl, h.1.of (b := b) (gg.trans (g5.mono fun a k z => by unfold AC; omega)), ?_, ?_, by rw [sI_wI, if_pos ⟨rfl, rfl⟩], (g5.i (by omega)).trans fw, by rw [sI_wI, if_neg (by omega), sI_wI, if_pos ⟨rfl, rfl⟩]; rfl, fun z => absurd rfl z⟩
      · have e9 : flC ((k, (q, plF k 0, []), c1, [hdI c1]) :: G) ++ [] = flC G ++ (q, plF k 2, []) :: c1 := by
          rw [List.append_nil]
          show flC G ++ frC (k, (q, plF k 0, []), c1, [hdI c1]) = _
          unfold frC hdC caF
          rw [if_neg (fun z => o3 (Or.inl z)), if_neg (fun z => o3 (Or.inr z)), if_neg o4]
          show flC G ++ (q, setN (plF k 0) 1 2, []) :: c1 = _
          rw [pl_1]
        rw [e9]
        exact (trM T4 hb g5 (fun a k z => by omega)).up (by omega)
      · have ep : pO ((k, (q, plF k 0, []), c1, [hdI c1]) :: G) = (rkM k, (flC G).length) :: pO G := by
          rw [pO]
          exact if_neg o3
        have eb : bO ((k, (q, plF k 0, []), c1, [hdI c1]) :: G) = bO F := by
          rw [← ebO, bO]
          show (if k = 100 then _ else if k = 7 then _ else bO G) = bO G
          rw [if_neg (fun z => o3 (Or.inl z)), if_neg (fun z => o3 (Or.inr z))]
        rw [ep, eb]
        exact c5.of g5 (fun a k z => by omega)
    unfold dm84_49 dm84_52
    by_cases z1 : k = 18
    · rw [if_pos z1, if_neg (show ¬ (1 : Int32) = 0 by decide)]
      exact fin 2 (o5.mp (Or.inl z1)).symm
    · rw [if_neg z1]
      by_cases z2 : k = 21
      · rw [if_pos z2, if_neg (show ¬ (1 : Int32) = 0 by decide)]
        exact fin 2 (o5.mp (Or.inr (Or.inl z2))).symm
      · rw [if_neg z2]
        by_cases z3 : k = 22
        · rw [if_pos z3, if_neg (show ¬ (1 : Int32) = 0 by decide)]
          exact fin 2 (o5.mp (Or.inr (Or.inr z3))).symm
        · rw [if_neg z3, if_pos rfl]
          refine fin 1 (Classical.byContradiction fun z => ?_)
          have : p.2 = 2 := by omega
          rcases o5.mpr this with q | q | q
          · exact z1 q
          · exact z2 q
          · exact z3 q
  · omega
end XX
end
section
/-! the reader of FormulaTrees, exactly: behind operands, references, ranges -/
def XG (s : aS) (b : Nat) (t : List Int32) (ns : List (List Int32)) (j : Nat) (F : List Fw) (cur : List NN) : Prop := KS s b t ns ∧ TR s b j (flC F ++ cur) ∧ PB s (pO F) (bO F) ∧ sI s 106 7 = Int32.ofNat j ∧ sI s 106 8 = -1 ∧ sI s 106 9 = 3 ∧ sI s 106 10 = Int32.ofNat (flC F).length
section XX
variable {s s1 : aS} {b i : Nat} {t : List Int32} {ns : List (List Int32)} {F : List Fw} {cur M : List NN} {fr : Int32} {lc : Nat}
set_option maxRecDepth 100000 in
theorem opk_d {c : Int32} {j : Nat} : opk c (t.getD j (-1)) = opk c (t.getD j 0) := by
  have h1 : t.getD j (-1) = 62 ↔ t.getD j 0 = 62 := gd_eq (by decide) (by decide)
  have h2 : t.getD j (-1) = 61 ↔ t.getD j 0 = 61 := gd_eq (by decide) (by decide)
  unfold opk
  simp only [h1, h2]
set_option maxRecDepth 100000 in
theorem opk_2 {c d : Int32} (h : (opk c d).2 = 2) : d = 62 ∨ d = 61 := by
  unfold opk at h
  repeat' split at h
  all_goals first
    | (exact absurd h (by decide))
    | (left; assumption)
    | (right; assumption)
set_option maxRecDepth 100000 in
theorem opk_b {c d : Int32} : (opk c d).2 ≤ 2 := by
  unfold opk
  repeat' split
  all_goals decide
set_option maxRecDepth 100000 in
theorem opk_n {c d : Int32} (h : c = 58 ∨ c = 41 ∨ c = 44 ∨ c = 37 ∨ c = 36 ∨ bad c) : (opk c d).1 = 0 := by
  have ne : ∀ k : Int32, ¬ (k = 58 ∨ k = 41 ∨ k = 44 ∨ k = 37 ∨ k = 36 ∨ bad k) → ¬ c = k := fun k hk z => hk (z ▸ h)
  have nb : ∀ k : Int32, (k = 38 ∨ k = 42 ∨ k = 43 ∨ k = 45 ∨ k = 47 ∨ k = 60 ∨ k = 61 ∨ k = 62 ∨ k = 94) → ¬ (k = 58 ∨ k = 41 ∨ k = 44 ∨ k = 37 ∨ k = 36 ∨ bad k) := by
    intro k hk
    rcases hk with q | q | q | q | q | q | q | q | q <;> rw [q] <;> unfold bad gW isL isD <;> decide
  unfold opk
  rw [if_neg (ne 38 (nb _ (by decide))), if_neg (ne 42 (nb _ (by decide))), if_neg (ne 43 (nb _ (by decide))), if_neg (ne 45 (nb _ (by decide))), if_neg (ne 47 (nb _ (by decide))), if_neg (ne 60 (nb _ (by decide))), if_neg (ne 61 (nb _ (by decide))), if_neg (ne 62 (nb _ (by decide))), if_neg (ne 94 (nb _ (by decide)))]
set_option maxRecDepth 100000 in
theorem flc (F : List Fw) (cur : List NN) : (fl F ++ cur).length = (flC F ++ cur).length := by rw [List.length_append, List.length_append, flC_len]
set_option maxRecDepth 100000 in
/-- behind an operand -/
theorem x68 (h : XI s b t ns i F cur 0 lc) (hF : ∀ f ∈ F, gdF ns f) (hcur : cur ≠ []) (hi : i < t.length) : ∃ s', dm68 (t.getD i (-1)) s = some s' ∧ ((sI s' 106 8 ≠ -1 ∧ ∃ p, mBeh t i F cur lc = .inl p) ∨ (∃ z, mBeh t i F cur lc = .inr z ∧ XI s' b t ns z.1 z.2.1 z.2.2.1 z.2.2.2.1 z.2.2.2.2) ∨ (t.getD i 0 = 58 ∧ lc = 1 ∧ XG s' b t ns (i + 1) F cur)) := by
  have hl := h.1.1.2.1
  have hb := xb h.1
  have ex : t.getD i (-1) = t.getD i 0 := gd_in hi
  obtain ⟨K, T, B, h7, h8, h9, h10⟩ := id h
  have h10 := h10 hcur
  have hce : cur.isEmpty = false := by
    cases cur with
    | nil => exact absurd rfl hcur
    | cons a r => rfl
  have h9e : sI s 106 9 = if lc = 1 then 5 else 4 := by
    rw [h9]
    unfold wn
    rw [hce]
    rfl
  have hle := T.2.1
  obtain ⟨c, hc⟩ : ∃ c, c = t.getD i 0 := ⟨_, rfl⟩
  rw [ex, ← hc]
  -- an operator, or nothing
  have btw : ¬ (c = 58 ∧ lc = 1) → ¬ c = 37 → ¬ (c = 41 ∧ ¬ nO F = 0) → ¬ (c = 44 ∧ inM F = 7) → ∃ s', dm68_52 c s = some s' ∧ ((sI s' 106 8 ≠ -1 ∧ ∃ p, mBeh t i F cur lc = .inl p) ∨ (∃ z, mBeh t i F cur lc = .inr z ∧ XI s' b t ns z.1 z.2.1 z.2.2.1 z.2.2.2.1 z.2.2.2.2)) := by
    intro n1 n2 n3 n4
    have eM : mBeh t i F cur lc = if ¬ (opk c (t.getD (i + 1) 0)).1 = 0 ∧ (fl F ++ cur).length < 128 then .inr (i + (opk c (t.getD (i + 1) 0)).2, (Int32.ofNat (opk c (t.getD (i + 1) 0)).1, ((fl F ++ cur).length, plF (Int32.ofNat (opk c (t.getD (i + 1) 0)).1) 0, []), (rdF (rkM (Int32.ofNat (opk c (t.getD (i + 1) 0)).1)) F cur).2, [hdI (rdF (rkM (Int32.ofNat (opk c (t.getD (i + 1) 0)).1)) F cur).2]) :: (rdF (rkM (Int32.ofNat (opk c (t.getD (i + 1) 0)).1)) F cur).1, [], 0, 0) else .inl i := by
      unfold mBeh
      rw [← hc, if_neg n1, if_neg n3, if_neg n4, if_neg (fun z => n2 z.1)]
    unfold dm68_52
    rw [h7, ofNat_succ (by omega), x34 K (by omega)]
    simp only [bu_some]
    rw [x83, opk_d]
    simp only [bu_some]
    by_cases c0 : (opk c (t.getD (i + 1) 0)).1 = 0
    · rw [if_pos c0]
      unfold dm84
      rw [if_pos rfl, nx_eq]
      refine ⟨_, rfl, Or.inl ⟨by rw [sI_wI, if_pos ⟨rfl, rfl⟩, h7]; exact nm1 (by omega), i, ?_⟩⟩
      rw [eM, if_neg (fun z => z.1 c0)]
    · rw [if_neg c0]
      have hp : opk c (t.getD (i + 1) 0) ∈ opL := (opk_in c (t.getD (i + 1) 0)).resolve_left (fun z => c0 (by rw [z]))
      by_cases c8 : (flC F ++ cur).length < 128
      · have h2 : i + (opk c (t.getD (i + 1) 0)).2 ≤ t.length := by
          have := opk_b (c := c) (d := t.getD (i + 1) 0)
          by_cases z : (opk c (t.getD (i + 1) 0)).2 = 2
          · have hin : i + 1 < t.length := by
              rcases opk_2 z with q | q
              · exact in_of (p := fun x => x = 62) (d := 0) (by decide) q
              · exact in_of (p := fun x => x = 61) (d := 0) (by decide) q
            omega
          · omega
        obtain ⟨s', q1, q2⟩ := x84 h hF hcur h2 hp c8 (fl F ++ cur).length
        rw [q1]
        refine ⟨s', rfl, Or.inr ⟨(_, _, _, _, _), ?_, q2⟩⟩
        rw [eM, if_pos ⟨c0, by rw [flc]; exact c8⟩]
      · have o1 := (op_l _ hp).1
        unfold dm84
        rw [if_neg o1]
        rcases x70 K T (sI s 106 7) with ⟨z, -⟩ | ⟨-, e70⟩
        · exact absurd z c8
        · rw [e70]
          simp only [bv_some]
          rw [if_pos trivial]
          refine ⟨_, rfl, Or.inl ⟨by rw [sI_wI, if_pos ⟨rfl, rfl⟩, h7]; exact nm1 (by omega), i, ?_⟩⟩
          rw [eM, if_neg (fun z => c8 (by rw [← flc]; exact z.2))]
  have up : ∀ {D : Option aS}, (∃ s', D = some s' ∧ ((sI s' 106 8 ≠ -1 ∧ ∃ p, mBeh t i F cur lc = .inl p) ∨ (∃ z, mBeh t i F cur lc = .inr z ∧ XI s' b t ns z.1 z.2.1 z.2.2.1 z.2.2.2.1 z.2.2.2.2))) → ∃ s', D = some s' ∧ ((sI s' 106 8 ≠ -1 ∧ ∃ p, mBeh t i F cur lc = .inl p) ∨ (∃ z, mBeh t i F cur lc = .inr z ∧ XI s' b t ns z.1 z.2.1 z.2.2.1 z.2.2.2.1 z.2.2.2.2) ∨ (c = 58 ∧ lc = 1 ∧ XG s' b t ns (i + 1) F cur)) := by
    rintro D ⟨s', e, q | q⟩
    · exact ⟨s', e, Or.inl q⟩
    · exact ⟨s', e, Or.inr (Or.inl q)⟩
  have out : ∀ {D : Option aS} {s' : aS}, D = some s' → (bu D fun s8 => some s8) = some s' := fun e => by rw [e]; rfl
  -- brackets
  have e22 := rd_in F cur
  have efl := rd_fl (x := 0) F cur hF
  have ebO := rd_bO (x := 0) F cur
  obtain ⟨P1, epO⟩ := pO_cut (x := 0) F cur
  obtain ⟨G, hG⟩ : ∃ G, G = (rdF 0 F cur).1 := ⟨_, rfl⟩
  obtain ⟨c1, hc1⟩ : ∃ c1, c1 = (rdF 0 F cur).2 := ⟨_, rfl⟩
  rw [← hG] at e22 efl ebO epO
  rw [← hc1] at efl
  have closing : ∀ f F0, G = f :: F0 → (f.1 = 100 ∨ f.1 = 7) → ∃ s', (if f.1 = 7 then dm75 1 s else dm77 s) = some s' ∧ XI s' b t ns (i + 1) F0 (clC f c1) 0 0 := by
    intro f F0 eG hf
    have hfg : gdF ns f := by
      rcases e22 with ⟨z, -⟩ | ⟨f9, F9, z1, z2, z3, z4, z5⟩
      · rw [z] at eG
        cases eG
      · rw [z1] at eG
        cases eG
        exact hF f z4
    have epO2 : pO F = P1 ++ pO F0 := by
      rw [epO, eG, pO, if_pos hf]
    by_cases f7 : f.1 = 7
    · rw [if_pos f7]
      have hk : f.2.2.2.length ≤ 29 := by
        rcases hfg with z | z
        · rw [z] at f7
          exact absurd f7 (by decide)
        · exact z.2.2.2.2.2.2.2.1
      have eb : bO F = ((flC F0).length, Int32.ofNat f.2.2.2.length, (pO F0).length) :: bO F0 := by
        rw [← ebO, eG, bO, if_neg (fun z => by rw [z] at f7; exact absurd f7 (by decide)), if_pos f7]
      have et : flC F ++ cur = flC F0 ++ hdC f :: (f.2.2.1 ++ c1) := by
        rw [← efl, eG]
        show (flC F0 ++ frC f) ++ c1 = _
        unfold frC
        rw [if_neg (fun z => by rw [z] at f7; exact absurd f7 (by decide)), List.append_assoc]
        rfl
      rw [et] at T
      rw [epO2, eb] at B
      obtain ⟨s', q1, q2, q3, q4, q5, q6, q7⟩ := x75b K T rfl (by omega) B h7 (by omega)
      refine ⟨s', q1, K.of (b := b) (q7.mono fun a k z => aMC z), ?_, q3, q6, (q7.i (by unfold aM; omega)).trans h8, ?_, fun _ => q4⟩
      · have e9 : (hdC f).1 = f.2.1.1 := rfl
        have e8 : (((hdC f).1, setN (hdC f).2.1 1 (Int32.ofNat (f.2.2.2.length + 1)), (hdC f).2.2) : NN) = upN f := by
          show (f.2.1.1, setN (setN f.2.1.2.1 1 (caF f)) 1 (Int32.ofNat (f.2.2.2.length + 1)), f.2.1.2.2) = upN f
          rw [setN_2]
          rfl
        rw [e8] at q2
        unfold clC
        rw [if_pos f7]
        exact q2.up (by omega)
      · rw [q5]
        unfold clC
        rw [if_pos f7]
        rfl
    · rw [if_neg f7]
      have f1 : f.1 = 100 := hf.resolve_right f7
      have eb : bO F = ((flC F0).length, -1, (pO F0).length) :: bO F0 := by
        rw [← ebO, eG, bO, if_pos f1]
      have et : flC F ++ cur = flC F0 ++ c1 := by
        rw [← efl, eG]
        show (flC F0 ++ frC f) ++ c1 = _
        unfold frC
        rw [if_pos f1, List.append_nil]
      rw [et] at T
      rw [epO2, eb] at B
      obtain ⟨s', q1, q2, q3, q4, q5, q6, q7⟩ := x77a K T B h7 (by omega)
      have hc0 : (clC f c1).isEmpty = false := by
        unfold clC
        rw [if_neg f7]
        have := rd_ne (x := 0) F cur hcur
        rw [← hc1] at this
        cases c1 with
        | nil => exact absurd rfl this
        | cons a r => rfl
      refine ⟨s', q1, K.of (b := b) (q7.mono fun a k z => aMC z), ?_, q3, q6, (q7.i (by unfold aM; omega)).trans h8, ?_, fun _ => q4⟩
      · unfold clC
        rw [if_neg f7]
        exact q2.up (by omega)
      · rw [q5]
        unfold wn
        rw [hc0]
        rfl
  unfold dm68
  by_cases c58 : c = 58
  · rw [if_pos c58]
    by_cases l1 : lc = 1
    · rw [if_pos (by rw [h9e, if_pos l1])]
      simp only [nx_eq]
      have e7 : sI (wI s 106 9 3) 106 7 = Int32.ofNat i := by rw [sI_wI, if_neg (by omega)]; exact h7
      rw [e7, ofNat_succ (by omega)]
      have g : ch (fun a k => a = 106 ∧ (k = 7 ∨ k = 9)) s (wI (wI s 106 9 3) 106 7 (Int32.ofNat (i + 1))) := ((ch.refl _ s).wI (by omega)).wI (by omega)
      exact ⟨_, rfl, Or.inr (Or.inr ⟨c58, l1, K.of (b := b) (g.mono fun a k z => by unfold AC; omega), (trM T hb g (fun a k z => by omega)).up (by omega), B.of g (fun a k z => by omega), by rw [sI_wI, if_pos ⟨rfl, rfl⟩], (g.i (by omega)).trans h8, by rw [sI_wI, if_neg (by omega), sI_wI, if_pos ⟨rfl, rfl⟩], (g.i (by omega)).trans h10⟩)⟩
    · rw [if_neg (by rw [h9e, if_neg l1]; decide)]
      unfold dm68_17 dm68_42
      rw [if_neg (by rw [c58]; decide), if_neg (by rw [c58]; decide), if_neg (by rw [c58]; decide), if_neg (by rw [c58]; decide)]
      exact up (btw (fun z => l1 z.2) (by rw [c58]; decide) (fun z => by rw [c58] at z; exact absurd z.1 (by decide)) (fun z => by rw [c58] at z; exact absurd z.1 (by decide)))
  · rw [if_neg c58]
    unfold dm68_17
    by_cases c37 : c = 37
    · rw [if_pos c37]
      unfold dm69
      rcases x70 K T (sI s 106 7) with ⟨c8, e70⟩ | ⟨c8, e70⟩
      · obtain ⟨s2, a1, a2, a3⟩ := x72 (q := (fl F ++ cur).length) (kd := 9) (c := 1) T c8
        rw [e70]
        simp only [bv_some]
        rw [if_neg (by decide), (xtr K).1, if_pos (xk K), h10, a1]
        simp only [bu_some, nx_eq]
        have e7 : sI (wI s2 106 9 4) 106 7 = Int32.ofNat i := by rw [sI_wI, if_neg (by omega), a3.i (by omega)]; exact h7
        rw [e7, ofNat_succ (by omega)]
        have g : ch (fun a k => a = 106 ∧ (k = 7 ∨ k = 9)) s2 (wI (wI s2 106 9 4) 106 7 (Int32.ofNat (i + 1))) := ((ch.refl _ s2).wI (by omega)).wI (by omega)
        have gg : ch (AC b) s (wI (wI s2 106 9 4) 106 7 (Int32.ofNat (i + 1))) := (a3.mono fun a k z => by unfold AC; omega).trans (g.mono fun a k z => by unfold AC; omega)
        have hb9 := xb K
        have B2 := B.of a3 (fun a k z => by omega)
        have B3 := B2.of g (fun a k z => by omega)
        refine ⟨_, rfl, Or.inr (Or.inl ⟨(i + 1, F, pcN (fl F ++ cur).length :: cur, 0, 0), ?_, K.of gg, ?_, B3, by rw [sI_wI, if_pos ⟨rfl, rfl⟩], ?_, by rw [sI_wI, if_neg (by omega), sI_wI, if_pos ⟨rfl, rfl⟩]; rfl, fun _ => ?_⟩)⟩
        · unfold mBeh
          rw [← hc, if_neg (fun z => c58 z.1), if_neg (fun z => by rw [c37] at z; exact absurd z.1 (by decide)), if_neg (fun z => by rw [c37] at z; exact absurd z.1 (by decide)), if_pos ⟨c37, by rw [flc]; exact c8⟩]
        · have e9 : pcN (fl F ++ cur).length = ((fl F ++ cur).length, plF 9 1, []) := by
            unfold pcN
            rw [pl_1]
            rfl
          show TR _ b (i + 1) (flC F ++ pcN (fl F ++ cur).length :: cur)
          rw [e9]
          exact (trM a2 hb g (fun a k z => by omega)).up (by omega)
        · rw [g.i (by omega), a3.i (by omega)]
          exact h8
        · rw [g.i (by omega), a3.i (by omega)]
          exact h10
      · rw [e70]
        simp only [bv_some]
        rw [if_pos trivial]
        refine ⟨_, rfl, Or.inl ⟨by rw [sI_wI, if_pos ⟨rfl, rfl⟩, h7]; exact nm1 (by omega), i, ?_⟩⟩
        unfold mBeh
        rw [← hc, if_neg (fun z => c58 z.1), if_neg (fun z => by rw [c37] at z; exact absurd z.1 (by decide)), if_neg (fun z => by rw [c37] at z; exact absurd z.1 (by decide)), if_neg (fun z => by rw [flc] at z; omega), if_neg (fun z => z.1 (opk_n (by rw [c37]; exact Or.inr (Or.inr (Or.inr (Or.inl rfl))))))]
    · rw [if_neg c37]
      unfold dm68_29
      rw [x73 B]
      simp only [bu_some]
      have hbA := bA_top F hF
      by_cases c41 : c = 41
      · rw [if_neg (by rw [c41]; decide), if_pos c41]
        by_cases hO : nO F = 0
        · have eB : bO F = [] := by
            have := bO_len F
            rw [hO] at this
            exact List.length_eq_zero_iff.mp this
          rw [eB, show bA [] = -1 from rfl, if_pos rfl, if_pos rfl]
          unfold dm68_42
          rw [if_pos c41, x82 B, eB]
          simp only [bu_some]
          rw [if_pos (by decide)]
          exact up (btw (fun z => c58 z.1) c37 (fun z => z.2 hO) (fun z => by rw [c41] at z; exact absurd z.1 (by decide)))
        · rcases e22 with ⟨-, -, z3⟩ | ⟨f, F0, z1, z2, z3, z4, z5⟩
          · exact absurd z3 hO
          · obtain ⟨s', q1, q2⟩ := closing f F0 z1 z2
            have eM : mBeh t i F cur lc = .inr (i + 1, F0, clC f c1, 0, 0) := by
              unfold mBeh
              rw [← hc, if_neg (fun z => c58 z.1), if_pos ⟨c41, hO⟩, ← hG, z1, ← hc1]
            by_cases f7 : f.1 = 7
            · rw [if_pos f7] at q1
              rw [if_neg (show ¬ bA (bO F) = -1 from (hbA.resolve_left (fun z => z.2 (z3.trans f7))).1), if_neg (by decide), if_pos c41]
              unfold dm68_40
              exact ⟨s', out q1, Or.inr (Or.inl ⟨_, eM, q2⟩)⟩
            · rw [if_neg f7] at q1
              rw [if_pos (hbA.resolve_right (fun z => f7 (z3.symm.trans z.2))).1, if_pos rfl]
              unfold dm68_42
              rw [if_pos c41, x82 B]
              simp only [bu_some]
              rw [if_neg (fun z => by
                have := bO_len F
                have hB32 := B.2.2.1
                have := (nle_iff (b := 0) (by omega) (by omega)).mp z
                omega)]
              exact ⟨s', out q1, Or.inr (Or.inl ⟨_, eM, q2⟩)⟩
      · by_cases c44 : c = 44
        · rw [if_pos c44]
          by_cases h7i : inM F = 7
          · rcases e22 with ⟨-, z2, -⟩ | ⟨f, F0, z1, z2, z3, z4, z5⟩
            · rw [h7i] at z2
              exact absurd z2 (by decide)
            · have f7 : f.1 = 7 := z3.symm.trans h7i
              rw [if_neg (show ¬ bA (bO F) = -1 from (hbA.resolve_left (fun z => z.2 h7i)).1), if_neg (by decide), if_neg c41]
              unfold dm68_40
              have hfg := hF f z4
              have hk : f.2.2.2.length ≤ 29 := by
                rcases hfg with z | z
                · rw [z] at f7
                  exact absurd f7 (by decide)
                · exact z.2.2.2.2.2.2.2.1
              have n100 : ¬ f.1 = 100 := fun z => by rw [z] at f7; exact absurd f7 (by decide)
              have epO2 : pO F = P1 ++ pO F0 := by
                rw [epO, z1, pO, if_pos z2]
              have eb : bO F = ((flC F0).length, Int32.ofNat f.2.2.2.length, (pO F0).length) :: bO F0 := by
                rw [← ebO, z1, bO, if_neg n100, if_pos f7]
              have eM : mBeh t i F cur lc = if f.2.2.2.length = 29 then .inl i else .inr (i + 1, cmF f c1 :: F0, [], 2, 0) := by
                unfold mBeh
                rw [← hc, if_neg (fun z => c58 z.1), if_neg (fun z => c41 z.1), if_pos ⟨c44, h7i⟩, ← hG, z1, ← hc1]
              by_cases k29 : f.2.2.2.length = 29
              · rw [eb] at B
                obtain ⟨s', q1, q2⟩ := x75w k29 B h7 (by omega)
                exact ⟨s', out q1, Or.inl ⟨q2, i, by rw [eM, if_pos k29]⟩⟩
              · have B2 := B
                rw [epO2, eb] at B2
                obtain ⟨s', q1, q2, q3, q4, q5, q6⟩ := x75c K T (by omega) B2 h7 (by omega)
                refine ⟨s', out q1, Or.inr (Or.inl ⟨_, by rw [eM, if_neg k29], K.of (b := b) (q6.mono fun a k z => aMC z), ?_, ?_, q5, (q6.i (by unfold aM; omega)).trans h8, by rw [q4]; rfl, fun z => absurd rfl z⟩)⟩
                · have e9 : flC (cmF f c1 :: F0) ++ [] = flC F ++ cur := by
                    rw [List.append_nil, ← efl, z1]
                    show flC F0 ++ frC (cmF f c1) = (flC F0 ++ frC f) ++ c1
                    unfold frC
                    rw [if_neg (show ¬ (cmF f c1).1 = 100 from n100), if_neg n100, List.append_assoc]
                    show flC F0 ++ hdC (cmF f c1) :: (f.2.2.1 ++ c1) = flC F0 ++ (hdC f :: (f.2.2.1 ++ c1))
                    have e8 : hdC (cmF f c1) = hdC f := by
                      show (f.2.1.1, setN (setN f.2.1.2.1 1 (Int32.ofNat (f.2.2.2.length + 1))) 1 (caF (cmF f c1)), f.2.1.2.2) = hdC f
                      rw [setN_2]
                      rfl
                    rw [e8]
                  show TR s' b (i + 1) (flC (cmF f c1 :: F0) ++ [])
                  rw [e9]
                  exact q2.up (by omega)
                · have ep : pO (cmF f c1 :: F0) = pO F0 := by
                    rw [pO]
                    exact if_pos (Or.inr f7)
                  have eb2 : bO (cmF f c1 :: F0) = ((flC F0).length, Int32.ofNat (f.2.2.2.length + 1), (pO F0).length) :: bO F0 := by
                    rw [bO, if_neg (show ¬ (cmF f c1).1 = 100 from n100), if_pos (show (cmF f c1).1 = 7 from f7)]
                    show ((flC F0).length, Int32.ofNat (f.2.2.2 ++ [hdI c1]).length, (pO F0).length) :: bO F0 = _
                    rw [List.length_append]
                    rfl
                  show PB s' (pO (cmF f c1 :: F0)) (bO (cmF f c1 :: F0))
                  rw [ep, eb2]
                  exact q3
          · rw [if_pos (hbA.resolve_right (fun z => h7i z.2)).1, if_pos rfl]
            unfold dm68_42
            rw [if_neg c41]
            exact up (btw (fun z => c58 z.1) c37 (fun z => c41 z.1) (fun z => h7i z.2))
        · rw [if_neg c44, if_neg c41]
          unfold dm68_42
          rw [if_neg c41]
          exact up (btw (fun z => c58 z.1) c37 (fun z => c41 z.1) (fun z => c44 z.1))
end XX
end
section
/-! ranges put in order: only what is told changes -/
set_option maxRecDepth 100000 in
theorem d102x {s : aS} {b n i w : Nat} {d : Nd} {y : Int32} (hn : sI s b 2 = Int32.ofNat n) (h8 : n ≤ 128) (hi : i < n) (h : CR s b i d) (hw : (w = 3 ∧ y = 1) ∨ (w = 4 ∧ y = 2)) : ∃ s', dm102 b (Int32.ofNat i) (Int32.ofNat w) s = some s' ∧ CR s' b i (setN (setN (setN d w (d (w + 2))) (w + 2) (d w)) 7 (((d 7 &&& ((y * 5) ^^^ (-1))) + ((d 7 &&& y) * 4)) + ((d 7 &&& (y * 4)) / 4))) ∧ ch (fun a q => a = b + 1 ∧ 11 * i ≤ q ∧ q < 11 * i + 9) s s' := by
  have hw2 : w = 3 ∨ w = 4 := by omega
  have e2 : Int32.ofNat w + 2 = Int32.ofNat (w + 2) := iSum (j := 2) (by omega) (by omega)
  have f1 : dm57 b (Int32.ofNat i) (Int32.ofNat w) s = some (d w) := (d57 hn h8 hi (by omega)).trans (by rw [h w (by omega)])
  have f2 : dm57 b (Int32.ofNat i) (Int32.ofNat (w + 2)) s = some (d (w + 2)) := (d57 hn h8 hi (by omega)).trans (by rw [h (w + 2) (by omega)])
  have hn1 : sI (wI s (b + 1) (11 * i + w) (d (w + 2))) b 2 = Int32.ofNat n := (sI_wI _ _ _ _ _ _).trans ((if_neg (by omega)).trans hn)
  have hn2 : sI (wI (wI s (b + 1) (11 * i + w) (d (w + 2))) (b + 1) (11 * i + (w + 2)) (d w)) b 2 = Int32.ofNat n := (sI_wI _ _ _ _ _ _).trans ((if_neg (by omega)).trans hn1)
  have h2 : CR (wI (wI s (b + 1) (11 * i + w) (d (w + 2))) (b + 1) (11 * i + (w + 2)) (d w)) b i (setN (setN d w (d (w + 2))) (w + 2) (d w)) := (h.set (by omega)).set (by omega)
  have e7 : setN (setN d w (d (w + 2))) (w + 2) (d w) 7 = d 7 := by
    unfold setN
    rw [if_neg (by omega), if_neg (by omega)]
  have f7 : dm57 b (Int32.ofNat i) 7 (wI (wI s (b + 1) (11 * i + w) (d (w + 2))) (b + 1) (11 * i + (w + 2)) (d w)) = some (d 7) := (d57 (w := 7) hn2 h8 hi (by omega)).trans (by rw [h2 7 (by omega), e7])
  have p28 : dm102_28 b (Int32.ofNat i) y (wI (wI s (b + 1) (11 * i + w) (d (w + 2))) (b + 1) (11 * i + (w + 2)) (d w)) = some (wI (wI (wI s (b + 1) (11 * i + w) (d (w + 2))) (b + 1) (11 * i + (w + 2)) (d w)) (b + 1) (11 * i + 7) (((d 7 &&& ((y * 5) ^^^ (-1))) + ((d 7 &&& y) * 4)) + ((d 7 &&& (y * 4)) / 4))) := by
    unfold dm102_28
    rw [f7]
    simp only [bu_some]
    rw [show (7 : Int32) = Int32.ofNat 7 from rfl, d60 hn2 h8 hi (by omega)]
    rfl
  refine ⟨_, ?_, h2.set (by omega), (((ch.refl _ s).wI (by omega)).wI (by omega)).wI (by omega)⟩
  unfold dm102
  rw [e2, f1, f2]
  simp only [bu_some]
  rw [d60 hn h8 hi (by omega)]
  simp only [bu_some]
  rw [d60 hn1 h8 hi (by omega)]
  simp only [bu_some]
  rcases hw with ⟨rfl, rfl⟩ | ⟨rfl, rfl⟩
  · rw [if_pos (by decide)]
    exact p28
  · rw [if_neg (by decide)]
    exact p28
set_option maxRecDepth 100000 in
theorem d101x {s : aS} {b n i : Nat} {d : Nd} (hn : sI s b 2 = Int32.ofNat n) (h8 : n ≤ 128) (hi : i < n) (h : CR s b i d) : ∃ s', dm101 b (Int32.ofNat i) s = some s' ∧ CR s' b i (orC (orR d)) ∧ ch (fun a q => a = b + 1 ∧ 11 * i ≤ q ∧ q < 11 * i + 9) s s' := by
  have col : ∀ (s : aS) (d : Nd), sI s b 2 = Int32.ofNat n → CR s b i d → ∃ s', dm101_13 b (Int32.ofNat i) s = some s' ∧ CR s' b i (orC d) ∧ ch (fun a q => a = b + 1 ∧ 11 * i ≤ q ∧ q < 11 * i + 9) s s' := by
    intro s d hn h
    have f4 : dm57 b (Int32.ofNat i) 4 s = some (d 4) := (d57 (w := 4) hn h8 hi (by omega)).trans (by rw [h 4 (by omega)])
    have f6 : dm57 b (Int32.ofNat i) 6 s = some (d 6) := (d57 (w := 6) hn h8 hi (by omega)).trans (by rw [h 6 (by omega)])
    unfold dm101_13 orC
    rw [f4, f6]
    simp only [bu_some]
    by_cases q : d 4 ≤ d 6
    · rw [if_pos q, if_pos q]
      exact ⟨s, rfl, h, ch.refl _ s⟩
    · rw [if_neg q, if_neg q]
      obtain ⟨s', g1, g2, g3⟩ := d102x (w := 4) (y := 2) hn h8 hi h (Or.inr ⟨rfl, rfl⟩)
      have g1 : dm102 b (Int32.ofNat i) 4 s = some s' := g1
      rw [g1]
      exact ⟨s', rfl, g2, g3⟩
  have f3 : dm57 b (Int32.ofNat i) 3 s = some (d 3) := (d57 (w := 3) hn h8 hi (by omega)).trans (by rw [h 3 (by omega)])
  have f5 : dm57 b (Int32.ofNat i) 5 s = some (d 5) := (d57 (w := 5) hn h8 hi (by omega)).trans (by rw [h 5 (by omega)])
  unfold dm101 orR
  rw [f3, f5]
  simp only [bu_some]
  by_cases q : d 3 ≤ d 5
  · rw [if_pos q, if_pos q]
    exact col s d hn h
  · rw [if_neg q, if_neg q]
    obtain ⟨s', g1, g2, g3⟩ := d102x (w := 3) (y := 1) hn h8 hi h (Or.inl ⟨rfl, rfl⟩)
    have g1 : dm102 b (Int32.ofNat i) 3 s = some s' := g1
    rw [g1]
    simp only [bu_some]
    obtain ⟨s2, k1, k2, k3⟩ := col s' _ ((g3.i (by omega)).trans hn) g2
    exact ⟨s2, k1, k2, g3.trans k3⟩
end
section
/-! the reader of FormulaTrees, exactly: references and ranges read, operands -/
section XX
variable {s s1 : aS} {b i : Nat} {t : List Int32} {ns : List (List Int32)} {F : List Fw} {cur M : List NN} {fr : Int32} {lc : Nat}
set_option maxRecDepth 100000 in
theorem cEnds {j e : Nat} (hj : j ≤ t.length) (h : (e = (cK t j).2.2 ∧ ((cK t j).1 = 0 ∨ isL (t.getD (cK t j).2.2 0))) ∨ e = cJ t j ∨ (e = cE t j ∧ rowB t (cJ t j))) : e ≤ t.length := by
  have hKb := cK_b (t := t) hj
  have hJb : cJ t j ≤ t.length := (dlR_b (t := t) (i := (cK t j).2.2) hKb.2.2.2.1).1
  have hE : cE t j ≤ t.length := (rwG_b (t := t) 300 (cJ t j) 0 hJb (by omega)).2.2.2
  rcases h with ⟨q, -⟩ | q | ⟨q, -⟩ <;> omega
set_option maxRecDepth 100000 in
/-- a reference -/
theorem x88 {j : Nat} {x : Int32} (h : XR s b t ns j F x) (hj : j ≤ t.length) : ∃ s', dm88 s = some s' ∧ ((sI s' 106 8 ≠ -1 ∧ ((flC F).length = 128 ∨ ¬ cOk t j ∨ bad (t.getD (cE t j) 0))) ∨ ((flC F).length < 128 ∧ cOk t j ∧ ¬ bad (t.getD (cE t j) 0) ∧ XI s' b t ns (cE t j) F [((fl F).length, clD x (Int32.ofNat (cW t j)) (Int32.ofNat (cK t j).2.1) (Int32.ofNat (cFl t j)), [])] 0 1)) := by
  obtain ⟨K, T, B, h7, h8, h9, ⟨f, hf, h11⟩, h12⟩ := h
  have hl := K.1.2.1
  have hb := xb K
  obtain ⟨v, s2, a1, a2, a3⟩ := x89 (j := j) K hj
  have K2 := K.of (b := b) (a2.mono fun a k z => a9C z)
  have T2 := trM T hb a2 (fun a k z => by unfold a9 at z; omega)
  have B2 := B.of a2 (fun a k z => by unfold a9 at z; omega)
  unfold dm88
  rw [h7, a1]
  simp only [bv_some]
  rcases a3 with ⟨c1, c2, c3, c4, c5, c6, c7⟩ | ⟨c1, c2, e, c3, c4⟩
  · rw [if_neg (by rw [c1]; decide), show sI s2 106 11 = Int32.ofNat f from (a2.i (by unfold a9; omega)).trans h11]
    rcases x70 K2 T2 (Int32.ofNat f) with ⟨d1, d2⟩ | ⟨d1, d2⟩
    · rw [d2]
      simp only [bv_some]
      rw [if_neg (by decide), (xtr K2).1, if_pos (xk K2)]
      unfold dm94
      simp only [bu_some]
      rw [(xtr K2).1, if_pos (xk K2), T2.1]
      have T20 : TR s2 b j (flC F ++ []) := by rw [List.append_nil]; exact T2
      obtain ⟨s3, e1, e2, e3⟩ := x72 (q := (fl F).length) (kd := 4) (c := 0) T20 (by rw [List.append_nil]; exact d1)
      rw [e1]
      simp only [bu_some]
      have K3 := K2.of (b := b) (e3.mono fun a k z => by unfold AC; omega)
      have p0 : ∀ k, sI s3 109 k = sI s2 109 k := fun k => e3.i (by omega)
      have x12 : sI s3 106 12 = x := by rw [e3.i (by omega), a2.i (by unfold a9; omega)]; exact h12
      rw [(xtr K3).1, if_pos (xk K3), x12]
      -- the puts, one after the other
      have put : ∀ (w : Nat) (v : Int32) (s4 : aS) (d : Nd), w < 9 → KS s4 b t ns → TR s4 b j (flC F ++ [((fl F).length, d, [])]) → dm60 b (Int32.ofNat (flC F).length) (Int32.ofNat w) v s4 = some (wI s4 (b + 1) (11 * (flC F).length + w) v) ∧ KS (wI s4 (b + 1) (11 * (flC F).length + w) v) b t ns ∧ TR (wI s4 (b + 1) (11 * (flC F).length + w) v) b j (flC F ++ [((fl F).length, setN d w v, [])]) := by
        intro w v s4 d hw K4 T4
        have g : ch (fun a _ => a = b + 1) s4 (wI s4 (b + 1) (11 * (flC F).length + w) v) := (ch.refl _ s4).wI rfl
        exact ⟨x60 T4 (by omega), K4.of (b := b) (g.mono fun a k z => by unfold AC; omega), T4.set hw⟩
      obtain ⟨f1, f2, f3⟩ := put 2 x s3 _ (by omega) K3 e2
      have f1 : dm60 b (Int32.ofNat (flC F).length) 2 x s3 = some (wI s3 (b + 1) (11 * (flC F).length + 2) x) := f1
      rw [f1]
      simp only [bu_some]
      rw [(xtr f2).1, if_pos (xk f2)]
      unfold dm95 dm96 dm97 dm98
      simp only [bu_some]
      have r9 : ∀ (s4 : aS) (k q : Nat) (v : Int32), sI (wI s4 (b + 1) q v) 109 k = sI s4 109 k := fun s4 k q v => by rw [sI_wI, if_neg (by omega)]
      have w1 : sI s3 109 1 = Int32.ofNat (cW t j) := (p0 1).trans c5
      have w2 : sI s3 109 2 = Int32.ofNat (cK t j).2.1 := (p0 2).trans c6
      have w3 : sI s3 109 3 = Int32.ofNat (cFl t j) := (p0 3).trans c7
      have w0 : sI s3 109 0 = Int32.ofNat (cE t j) := (p0 0).trans c4
      simp only [r9, w1]
      obtain ⟨g1, g2, g3⟩ := put 3 (Int32.ofNat (cW t j)) _ _ (by omega) f2 f3
      have g1 : dm60 b (Int32.ofNat (flC F).length) 3 (Int32.ofNat (cW t j)) (wI s3 (b + 1) (11 * (flC F).length + 2) x) = _ := g1
      rw [g1]
      simp only [bu_some, r9, w2]
      obtain ⟨i1, i2, i3⟩ := put 4 (Int32.ofNat (cK t j).2.1) _ _ (by omega) g2 g3
      have i1 : dm60 b (Int32.ofNat (flC F).length) 4 (Int32.ofNat (cK t j).2.1) (wI (wI s3 (b + 1) (11 * (flC F).length + 2) x) (b + 1) (11 * (flC F).length + 3) (Int32.ofNat (cW t j))) = _ := i1
      rw [i1]
      simp only [bu_some, r9, w1]
      obtain ⟨j1, j2, j3⟩ := put 5 (Int32.ofNat (cW t j)) _ _ (by omega) i2 i3
      have j1 : dm60 b (Int32.ofNat (flC F).length) 5 (Int32.ofNat (cW t j)) (wI (wI (wI s3 (b + 1) (11 * (flC F).length + 2) x) (b + 1) (11 * (flC F).length + 3) (Int32.ofNat (cW t j))) (b + 1) (11 * (flC F).length + 4) (Int32.ofNat (cK t j).2.1)) = _ := j1
      rw [j1]
      simp only [bu_some, r9, w2]
      obtain ⟨k1, k2, k3⟩ := put 6 (Int32.ofNat (cK t j).2.1) _ _ (by omega) j2 j3
      have k1 : dm60 b (Int32.ofNat (flC F).length) 6 (Int32.ofNat (cK t j).2.1) (wI (wI (wI (wI s3 (b + 1) (11 * (flC F).length + 2) x) (b + 1) (11 * (flC F).length + 3) (Int32.ofNat (cW t j))) (b + 1) (11 * (flC F).length + 4) (Int32.ofNat (cK t j).2.1)) (b + 1) (11 * (flC F).length + 5) (Int32.ofNat (cW t j))) = _ := k1
      rw [k1]
      simp only [bu_some, r9, w3]
      obtain ⟨l1, l2, l3⟩ := put 7 (Int32.ofNat (cFl t j)) _ _ (by omega) k2 k3
      have l1 : dm60 b (Int32.ofNat (flC F).length) 7 (Int32.ofNat (cFl t j)) (wI (wI (wI (wI (wI s3 (b + 1) (11 * (flC F).length + 2) x) (b + 1) (11 * (flC F).length + 3) (Int32.ofNat (cW t j))) (b + 1) (11 * (flC F).length + 4) (Int32.ofNat (cK t j).2.1)) (b + 1) (11 * (flC F).length + 5) (Int32.ofNat (cW t j))) (b + 1) (11 * (flC F).length + 6) (Int32.ofNat (cK t j).2.1)) = _ := l1
      rw [l1]
      simp only [bu_some]
      unfold dm81 dm93
      simp only [bu_some, nx_eq]
      generalize hs6 : wI (wI (wI (wI (wI (wI s3 (b + 1) (11 * (flC F).length + 2) x) (b + 1) (11 * (flC F).length + 3) (Int32.ofNat (cW t j))) (b + 1) (11 * (flC F).length + 4) (Int32.ofNat (cK t j).2.1)) (b + 1) (11 * (flC F).length + 5) (Int32.ofNat (cW t j))) (b + 1) (11 * (flC F).length + 6) (Int32.ofNat (cK t j).2.1)) (b + 1) (11 * (flC F).length + 7) (Int32.ofNat (cFl t j)) = s6 at l2 l3 ⊢
      have g6 : ch (fun a _ => a = b + 1) s3 s6 := by
        rw [← hs6]
        exact ((((((ch.refl (fun a _ => a = b + 1) s3).wI rfl).wI rfl).wI rfl).wI rfl).wI rfl).wI rfl
      have e0 : sI (wI (wI (wI s6 106 10 (Int32.ofNat (flC F).length)) 106 9 4) 106 9 5) 109 0 = Int32.ofNat (cE t j) := by
        rw [sI_wI, if_neg (by omega), sI_wI, if_neg (by omega), sI_wI, if_neg (by omega), g6.i (by omega)]
        exact w0
      rw [e0]
      have g7 : ch (fun a k => a = 106 ∧ (k = 7 ∨ k = 9 ∨ k = 10)) s6 (wI (wI (wI (wI s6 106 10 (Int32.ofNat (flC F).length)) 106 9 4) 106 9 5) 106 7 (Int32.ofNat (cE t j))) := ((((ch.refl _ s6).wI (by omega)).wI (by omega)).wI (by omega)).wI (by omega)
      have hEb := (cOk_b hj c2).2.2.2
      refine ⟨_, rfl, Or.inr ⟨d1, c2, c3, l2.of (b := b) (g7.mono fun a k z => by unfold AC; omega), (trM l3 hb g7 (fun a k z => by omega)).up (by omega), ((B2.of e3 (fun a k z => by omega)).of g6 (fun a k z => by omega)).of g7 (fun a k z => by omega), by rw [sI_wI, if_pos ⟨rfl, rfl⟩], ?_, ?_, fun _ => ?_⟩⟩
      · rw [g7.i (by omega), g6.i (by omega), e3.i (by omega), a2.i (by unfold a9; omega)]
        exact h8
      · rw [sI_wI, if_neg (by omega), sI_wI, if_pos ⟨rfl, rfl⟩]
        rfl
      · rw [sI_wI, if_neg (by omega), sI_wI, if_neg (by omega), sI_wI, if_neg (by omega), sI_wI, if_pos ⟨rfl, rfl⟩]
    · rw [d2]
      simp only [bv_some]
      rw [if_pos trivial]
      exact ⟨_, rfl, Or.inl ⟨by rw [sI_wI, if_pos ⟨rfl, rfl⟩]; exact nm1 (by omega), Or.inl d1⟩⟩
  · rw [if_pos c1]
    unfold dm93
    simp only [bu_some, nx_eq]
    have he := cEnds hj c4
    rw [c3]
    exact ⟨_, rfl, Or.inl ⟨by rw [sI_wI, if_pos ⟨rfl, rfl⟩]; exact nm1 (by omega), Or.inr c2⟩⟩
set_option maxRecDepth 100000 in
theorem or_p : ∀ a c : Nat, a < 4 → c < 4 → Int32.ofNat a + Int32.ofNat c * 4 = (Int32.ofNat a ||| (Int32.ofNat c <<< ((2 : Int32) &&& 31))) ∧ 0 ≤ (Int32.ofNat a + Int32.ofNat c * 4).toInt ∧ (Int32.ofNat a + Int32.ofNat c * 4).toInt ≤ 15 := by
  have : ∀ a ∈ List.range 4, ∀ c ∈ List.range 4, Int32.ofNat a + Int32.ofNat c * 4 = (Int32.ofNat a ||| (Int32.ofNat c <<< ((2 : Int32) &&& 31))) ∧ 0 ≤ (Int32.ofNat a + Int32.ofNat c * 4).toInt ∧ (Int32.ofNat a + Int32.ofNat c * 4).toInt ≤ 15 := by decide
  exact fun a c ha hc => this a (List.mem_range.mpr ha) c (List.mem_range.mpr hc)
set_option maxRecDepth 100000 in
/-- a node as a whole becomes another -/
theorem TR.nd {z : Nat} {C B : List NN} {n : NN} {d : Nd} (h : TR s b z (C ++ n :: B)) (g : ch (fun a q => a = b + 1 ∧ 11 * C.length ≤ q ∧ q < 11 * C.length + 9) s s1) (hd : CR s1 b C.length d) : TR s1 b z (C ++ (n.1, d, n.2.2) :: B) := by
  obtain ⟨a1, a2, u, a3, a4, a5⟩ := h
  have el : (C ++ (n.1, d, n.2.2) :: B).length = (C ++ n :: B).length := by rw [List.length_append, List.length_append, List.length_cons, List.length_cons]
  refine ⟨by rw [el, g.i (by omega)]; exact a1, by rw [el]; exact a2, u, a3.of g (by omega) (fun k => by omega), a4, fun k m hk => ?_⟩
  by_cases e : k = C.length
  · subst e
    rw [mid_m] at hk
    cases hk
    obtain ⟨r0, st, r1, r2, r3, r4⟩ := a5 C.length n mid_m
    exact ⟨hd, st, (g.i (by omega)).trans r1, (g.i (by omega)).trans r2, r3, r4⟩
  · rw [mid_s (y := n) e] at hk
    obtain ⟨r0, st, r1, r2, r3, r4⟩ := a5 k m hk
    exact ⟨fun j hj => (g.i (by omega)).trans (r0 j hj), st, (g.i (by omega)).trans r1, (g.i (by omega)).trans r2, r3, r4⟩
set_option maxRecDepth 100000 in
/-- the other end of a range -/
theorem x99 {j : Nat} {n : NN} (h : XG s b t ns j F [n]) (hj : j ≤ t.length) (h4 : n.2.1 0 = 4) (hn : n.2.2 = []) (h7n : 0 ≤ (n.2.1 7).toInt ∧ (n.2.1 7).toInt ≤ 3) : ∃ s', dm99 s = some s' ∧ ((sI s' 106 8 ≠ -1 ∧ (¬ cOk t j ∨ bad (t.getD (cE t j) 0))) ∨ (cOk t j ∧ ¬ bad (t.getD (cE t j) 0) ∧ XI s' b t ns (cE t j) F [rgN n (Int32.ofNat (cW t j)) (Int32.ofNat (cK t j).2.1) (Int32.ofNat (cFl t j))] 0 0)) := by
  obtain ⟨K, T, B, h7, h8, h9, h10⟩ := h
  have hl := K.1.2.1
  have hb := xb K
  obtain ⟨v, s2, a1, a2, a3⟩ := x89 (j := j) K hj
  have K2 := K.of (b := b) (a2.mono fun a k z => a9C z)
  have T2 := trM T hb a2 (fun a k z => by unfold a9 at z; omega)
  have B2 := B.of a2 (fun a k z => by unfold a9 at z; omega)
  unfold dm99
  rw [h7, a1]
  simp only [bv_some]
  rcases a3 with ⟨c1, c2, c3, c4, c5, c6, c7⟩ | ⟨c1, c2, e, c3, c4⟩
  · have hEb := (cOk_b hj c2).2.2
    rw [if_neg (by rw [c1]; decide), (xtr K2).1, if_pos (xk K2), show sI s2 106 10 = Int32.ofNat (flC F).length from (a2.i (by unfold a9; omega)).trans h10]
    have put : ∀ (w : Nat) (v : Int32) (s4 : aS) (m : NN), w < 9 → TR s4 b j (flC F ++ [m]) → dm60 b (Int32.ofNat (flC F).length) (Int32.ofNat w) v s4 = some (wI s4 (b + 1) (11 * (flC F).length + w) v) ∧ TR (wI s4 (b + 1) (11 * (flC F).length + w) v) b j (flC F ++ [(m.1, setN m.2.1 w v, m.2.2)]) := fun w v s4 m hw T4 => ⟨x60 T4 (by omega), T4.set hw⟩
    have r9 : ∀ (s4 : aS) (k q : Nat) (v : Int32), sI (wI s4 (b + 1) q v) 109 k = sI s4 109 k := fun s4 k q v => by rw [sI_wI, if_neg (by omega)]
    unfold dm100 dm96 dm97 dm98
    simp only [bu_some]
    obtain ⟨f1, f2⟩ := put 0 5 s2 n (by omega) T2
    have f1 : dm60 b (Int32.ofNat (flC F).length) 0 5 s2 = _ := f1
    rw [f1]
    simp only [bu_some, r9, c5]
    obtain ⟨g1, g2⟩ := put 5 (Int32.ofNat (cW t j)) _ _ (by omega) f2
    have g1 : dm60 b (Int32.ofNat (flC F).length) 5 (Int32.ofNat (cW t j)) (wI s2 (b + 1) (11 * (flC F).length + 0) 5) = _ := g1
    rw [g1]
    simp only [bu_some, r9, c6]
    obtain ⟨i1, i2⟩ := put 6 (Int32.ofNat (cK t j).2.1) _ _ (by omega) g2
    have i1 : dm60 b (Int32.ofNat (flC F).length) 6 (Int32.ofNat (cK t j).2.1) (wI (wI s2 (b + 1) (11 * (flC F).length + 0) 5) (b + 1) (11 * (flC F).length + 5) (Int32.ofNat (cW t j))) = _ := i1
    rw [i1]
    simp only [bu_some, r9, c7]
    have q7 := x57 (w := 7) i2 (by omega)
    have q7 : dm57 b (Int32.ofNat (flC F).length) 7 (wI (wI (wI s2 (b + 1) (11 * (flC F).length + 0) 5) (b + 1) (11 * (flC F).length + 5) (Int32.ofNat (cW t j))) (b + 1) (11 * (flC F).length + 6) (Int32.ofNat (cK t j).2.1)) = some (n.2.1 7) := q7
    rw [q7]
    simp only [bu_some]
    obtain ⟨a, ha⟩ : ∃ a, a = (n.2.1 7).toInt.toNat := ⟨_, rfl⟩
    have e7 : n.2.1 7 = Int32.ofNat a := by rw [ha]; exact ofNat_of h7n.1
    obtain ⟨y1, y2⟩ := or_p a (cFl t j) (by omega) (by omega)
    rw [e7]
    obtain ⟨j1, j2⟩ := put 7 (Int32.ofNat a + Int32.ofNat (cFl t j) * 4) _ _ (by omega) i2
    have j1 : dm60 b (Int32.ofNat (flC F).length) 7 (Int32.ofNat a + Int32.ofNat (cFl t j) * 4) (wI (wI (wI s2 (b + 1) (11 * (flC F).length + 0) 5) (b + 1) (11 * (flC F).length + 5) (Int32.ofNat (cW t j))) (b + 1) (11 * (flC F).length + 6) (Int32.ofNat (cK t j).2.1)) = _ := j1
    rw [j1]
    simp only [bu_some]
    generalize hs6 : wI (wI (wI (wI s2 (b + 1) (11 * (flC F).length + 0) 5) (b + 1) (11 * (flC F).length + 5) (Int32.ofNat (cW t j))) (b + 1) (11 * (flC F).length + 6) (Int32.ofNat (cK t j).2.1)) (b + 1) (11 * (flC F).length + 7) (Int32.ofNat a + Int32.ofNat (cFl t j) * 4) = s6 at j2 ⊢
    have g6 : ch (fun a _ => a = b + 1) s2 s6 := by
      rw [← hs6]
      exact ((((ch.refl (fun a _ => a = b + 1) s2).wI rfl).wI rfl).wI rfl).wI rfl
    have hrow : CR s6 b (flC F).length (setN (setN (setN (setN n.2.1 0 5) 5 (Int32.ofNat (cW t j))) 6 (Int32.ofNat (cK t j).2.1)) 7 (Int32.ofNat a + Int32.ofNat (cFl t j) * 4)) := by
      obtain ⟨-, -, u, -, -, a5⟩ := j2
      exact (a5 (flC F).length _ mid_m).1
    obtain ⟨s7, k1, k2, k3⟩ := d101x j2.1 j2.2.1 mid_len hrow
    rw [k1]
    simp only [bu_some]
    have T7 := j2.nd k3 k2
    have g7 : ch (fun a _ => a = b + 1) s2 s7 := g6.trans (k3.mono fun a k z => z.1)
    have w0 : sI (wI s7 106 9 4) 109 0 = Int32.ofNat (cE t j) := by
      rw [sI_wI, if_neg (by omega), g7.i (by omega)]
      exact c4
    unfold dm93
    simp only [bu_some, nx_eq]
    rw [w0]
    have g8 : ch (fun a k => a = 106 ∧ (k = 7 ∨ k = 9)) s7 (wI (wI s7 106 9 4) 106 7 (Int32.ofNat (cE t j))) := ((ch.refl _ s7).wI (by omega)).wI (by omega)
    refine ⟨_, rfl, Or.inr ⟨c2, c3, ?_, ?_, ((B2.of g7 (fun a k z => by omega)).of g8 (fun a k z => by omega)), by rw [sI_wI, if_pos ⟨rfl, rfl⟩], ?_, by rw [sI_wI, if_neg (by omega), sI_wI, if_pos ⟨rfl, rfl⟩]; rfl, fun _ => ?_⟩⟩
    · exact K2.of (b := b) ((g7.mono fun a k z => by unfold AC; omega).trans (g8.mono fun a k z => by unfold AC; omega))
    · have e9 : rgN n (Int32.ofNat (cW t j)) (Int32.ofNat (cK t j).2.1) (Int32.ofNat (cFl t j)) = (n.1, orC (orR (setN (setN (setN (setN n.2.1 0 5) 5 (Int32.ofNat (cW t j))) 6 (Int32.ofNat (cK t j).2.1)) 7 (Int32.ofNat a + Int32.ofNat (cFl t j) * 4))), n.2.2) := by
        unfold rgN
        rw [or_eq (by rw [setN_s]; exact y2), hn, e7, y1]
      rw [e9]
      exact (trM T7 hb g8 (fun a k z => by omega)).up (by omega)
    · rw [g8.i (by omega), g7.i (by omega), a2.i (by unfold a9; omega)]
      exact h8
    · rw [g8.i (by omega), g7.i (by omega), a2.i (by unfold a9; omega)]
      exact h10
  · rw [if_pos c1]
    unfold dm93
    simp only [bu_some, nx_eq]
    have he := cEnds hj c4
    rw [c3]
    exact ⟨_, rfl, Or.inl ⟨by rw [sI_wI, if_pos ⟨rfl, rfl⟩]; exact nm1 (by omega), c2⟩⟩
set_option maxRecDepth 100000 in
/-- a minus before -/
theorem x118 (h : XI s b t ns i F [] fr 0) (hi : i < t.length) : OC b t ns F i (if (fl F).length = 128 then .inl i else .inr (i + 1, (10, ((fl F).length, plF 10 0, []), [], []) :: F, [], 0, 0)) (dm118 s) := by
  have hl := h.1.1.2.1
  have hb := xb h.1
  have T := h.tr
  have hfl := flC_len F
  unfold dm118
  rcases x70 h.1 T (sI s 106 7) with ⟨c8, e70⟩ | ⟨c8, e70⟩
  · have hp := pO_len F
    obtain ⟨s2, a1, a2, a3⟩ := x87 (x := 6) (y := (flC F).length) h.2.2.1 (by omega)
    have K2 := h.1.of (b := b) (a3.mono fun a k z => by unfold AC; omega)
    have T2 := trM T hb a3 (fun a k z => by omega)
    have T20 : TR s2 b i (flC F ++ []) := by rw [List.append_nil]; exact T2
    obtain ⟨s3, b1, b2, b3⟩ := x72 (q := (fl F).length) (kd := 10) (c := 1) T20 (by rw [List.append_nil]; exact c8)
    rw [e70]
    simp only [bv_some]
    rw [if_neg (show ¬ (1 : Int32) = 0 by decide), (xtr h.1).1, if_pos (xk h.1)]
    unfold dm94
    simp only [bu_some]
    rw [T.1, a1]
    simp only [bu_some]
    rw [(xtr K2).1, if_pos (xk K2), (xtr K2).1, if_pos (xk K2), T2.1, b1]
    simp only [bu_some, nx_eq]
    have e7 : sI (wI s3 106 9 1) 106 7 = Int32.ofNat i := by
      rw [sI_wI, if_neg (by omega), b3.i (by omega), a3.i (by omega)]
      exact h.2.2.2.1
    rw [e7, ofNat_succ (by omega), if_neg (show ¬ (fl F).length = 128 by omega)]
    have g : ch (fun a k => a = 106 ∧ (k = 7 ∨ k = 9)) s3 (wI (wI s3 106 9 1) 106 7 (Int32.ofNat (i + 1))) := ((ch.refl _ s3).wI (by omega)).wI (by omega)
    refine ⟨_, rfl, Or.inr (Or.inl ⟨_, rfl, h.1.of (b := b) (((a3.mono fun a k z => by unfold AC; omega).trans (b3.mono fun a k z => by unfold AC; omega)).trans (g.mono fun a k z => by unfold AC; omega)), ?_, ?_, by rw [sI_wI, if_pos ⟨rfl, rfl⟩], ?_, by rw [sI_wI, if_neg (by omega), sI_wI, if_pos ⟨rfl, rfl⟩]; rfl, fun z => absurd rfl z⟩)⟩
    · have e9 : flC ((10, ((fl F).length, plF 10 0, []), [], []) :: F) ++ [] = flC F ++ [((fl F).length, plF 10 1, [])] := by
        rw [List.append_nil]
        show flC F ++ [((fl F).length, setN (plF 10 0) 1 1, [])] = _
        rw [pl_1]
      show TR _ b (i + 1) (flC ((10, ((fl F).length, plF 10 0, []), [], []) :: F) ++ [])
      rw [e9]
      exact (trM b2 hb g (fun a k z => by omega)).up (by omega)
    · exact (a2.of b3 (fun a k z => by omega)).of g (fun a k z => by omega)
    · rw [g.i (by omega), b3.i (by omega), a3.i (by omega)]
      exact h.2.2.2.2.1
  · rw [e70]
    simp only [bv_some]
    rw [if_pos trivial, if_pos (by omega)]
    exact ⟨_, rfl, Or.inl ⟨by rw [sI_wI, if_pos ⟨rfl, rfl⟩, h.2.2.2.1]; exact nm1 (by omega), dead.l⟩⟩
/-- what the flag of arguments means -/
def frI (fr : Int32) (F : List Fw) : Prop := fr = 0 ∨ (fr = 1 ∧ ∃ f F0, F = f :: F0 ∧ f.1 = 7 ∧ f.2.2.2 = []) ∨ (fr = 2 ∧ ∃ f F0, F = f :: F0 ∧ f.1 = 7 ∧ f.2.2.2 ≠ [])
set_option maxRecDepth 100000 in
/-- an argument that is nothing, or brackets with nothing in them -/
theorem x119 (h : XI s b t ns i F [] fr 0) (hF : ∀ f ∈ F, gdF ns f) (hfr : frI fr F) (hi : i < t.length) {c : Int32} {v : Int32} (hc : t.getD i 0 = c) (hv : (c = 41 ∧ v = 1) ∨ (c = 44 ∧ v = 0)) : ∃ s', dm119 v s = some s' ∧ ((fr = 0 ∧ sI s' 106 8 ≠ -1) ∨ (c = 41 ∧ fr = 1 ∧ ∃ f F0, F = f :: F0 ∧ XI s' b t ns (i + 1) F0 (f.2.1 :: (f.2.2.1 ++ [])) 0 0) ∨ (¬ fr = 0 ∧ ¬ (c = 41 ∧ fr = 1) ∧ (((flC F).length = 128 ∧ sI s' 106 8 ≠ -1) ∨ ((flC F).length < 128 ∧ ((sI s' 106 8 ≠ -1 ∧ ∃ p, mBeh t i F [((fl F).length, plF 8 0, [])] 0 = .inl p) ∨ ∃ z, mBeh t i F [((fl F).length, plF 8 0, [])] 0 = .inr z ∧ XI s' b t ns z.1 z.2.1 z.2.2.1 z.2.2.2.1 z.2.2.2.2))))) := by
  have hl := h.1.1.2.1
  have hb := xb h.1
  obtain ⟨K, -, B, h7, h8, h9, -⟩ := id h
  have T := h.tr
  have h9e : sI s 106 9 = if fr = 0 then 1 else 0 := h9
  by_cases f0 : fr = 0
  · unfold dm119
    rw [if_neg (by rw [h9e, if_pos f0]; decide), nx_eq]
    exact ⟨_, rfl, Or.inl ⟨f0, by rw [sI_wI, if_pos ⟨rfl, rfl⟩, h7]; exact nm1 (by omega)⟩⟩
  · obtain ⟨f, F0, eF, f7⟩ : ∃ f F0, F = f :: F0 ∧ f.1 = 7 := by
      rcases hfr with z | ⟨-, f, F0, z1, z2, -⟩ | ⟨-, f, F0, z1, z2, -⟩
      · exact absurd z f0
      · exact ⟨f, F0, z1, z2⟩
      · exact ⟨f, F0, z1, z2⟩
    have n100 : ¬ f.1 = 100 := fun z => by rw [z] at f7; exact absurd f7 (by decide)
    have hfg := hF f (by rw [eF]; exact List.mem_cons_self)
    have hk : f.2.2.2.length ≤ 29 ∧ f.2.1.2.1 1 = Int32.ofNat f.2.2.2.length := by
      rcases hfg with z | z
      · exact absurd z n100
      · exact ⟨z.2.2.2.2.2.2.2.1, z.2.2.1 f7⟩
    have eb : bO F = ((flC F0).length, Int32.ofNat f.2.2.2.length, (pO F0).length) :: bO F0 := by
      rw [eF, bO, if_neg n100, if_pos f7]
    have ep : pO F = pO F0 := by rw [eF, pO, if_pos (Or.inr f7)]
    have et : flC F = flC F0 ++ hdC f :: f.2.2.1 := by
      rw [eF]
      show flC F0 ++ frC f = _
      unfold frC
      rw [if_neg n100]
    have eA : bA (bO F) = Int32.ofNat f.2.2.2.length := by rw [eb]; rfl
    by_cases c41 : c = 41 ∧ fr = 1
    · have hv1 : v = 1 := by
        rcases hv with z | z
        · exact z.2
        · rw [c41.1] at z
          exact absurd z.1 (by decide)
      have hlen : f.2.2.2 = [] := by
        rcases hfr with z | ⟨-, f9, F9, z1, z2, z3⟩ | ⟨z, -⟩
        · exact absurd z f0
        · rw [eF] at z1
          cases z1
          exact z3
        · rw [c41.2] at z
          exact absurd z (by decide)
      unfold dm119
      rw [if_pos (by rw [h9e, if_neg f0]), hv1, if_neg (by decide), x74 B, eA, hlen]
      simp only [bu_some]
      rw [if_pos (show Int32.ofNat ([] : List Nat).length = 0 from rfl)]
      have B2 := B
      rw [ep, eb, hlen] at B2
      have T2 := T
      rw [et] at T2
      obtain ⟨s', q1, q2, q3, q4, q5, q6, q7⟩ := x77b (P1 := []) (v := Int32.ofNat ([] : List Nat).length) K T2 rfl (by decide) B2 h7 (by omega)
      rw [q1]
      refine ⟨s', rfl, Or.inr (Or.inl ⟨c41.1, c41.2, f, F0, eF, K.of (b := b) (q7.mono fun a k z => aMC z), ?_, q3, q6, (q7.i (by unfold aM; omega)).trans h8, by rw [q5]; rfl, fun _ => q4⟩)⟩
      have e9 : (((hdC f).1, setN (hdC f).2.1 1 (Int32.ofNat ([] : List Nat).length), (hdC f).2.2) : NN) = f.2.1 := by
        show (f.2.1.1, setN (setN f.2.1.2.1 1 (caF f)) 1 (Int32.ofNat ([] : List Nat).length), f.2.1.2.2) = f.2.1
        rw [setN_2, setN_id (by rw [hk.2, hlen])]
      rw [e9] at q2
      rw [List.append_nil]
      exact q2.up (by omega)
    · -- a node that is nothing, then the end of the argument
      have e119 : dm119 v s = dm119_17 v s := by
        unfold dm119
        rw [if_pos (by rw [h9e, if_neg f0])]
        rcases hv with ⟨z1, z2⟩ | ⟨z1, z2⟩
        · rw [z2, if_neg (by decide), x74 B, eA]
          simp only [bu_some]
          rw [if_neg (fun z => ?_)]
          have z := (neq_iff (b := 0) (by omega) (by omega)).mp z
          rcases hfr with y | ⟨y, -⟩ | ⟨-, f9, F9, y1, y2, y3⟩
          · exact f0 y
          · exact c41 ⟨z1, y⟩
          · rw [eF] at y1
            cases y1
            exact y3 (List.length_eq_zero_iff.mp z)
        · rw [z2, if_pos rfl]
      rw [e119]
      unfold dm119_17
      rcases x70 K T (sI s 106 7) with ⟨c8, e70⟩ | ⟨c8, e70⟩
      · have T0 : TR s b i (flC F ++ []) := by rw [List.append_nil]; exact T
        obtain ⟨s2, a1, a2, a3⟩ := x72 (q := (fl F).length) (kd := 8) (c := 0) T0 (by rw [List.append_nil]; exact c8)
        have K2 := K.of (b := b) (a3.mono fun a k z => by unfold AC; omega)
        have B2 := B.of a3 (fun a k z => by omega)
        have f7s : sI s2 106 7 = Int32.ofNat i := (a3.i (by omega)).trans h7
        have f8s : sI s2 106 8 = -1 := (a3.i (by omega)).trans h8
        rw [e70]
        simp only [bv_some]
        rw [if_neg (by decide), (xtr K).1, if_pos (xk K), (xtr K).1, if_pos (xk K)]
        unfold dm94
        simp only [bu_some]
        rw [T.1, a1]
        simp only [bu_some]
        have er : rdF 0 F [((fl F).length, plF 8 0, [])] = (F, [((fl F).length, plF 8 0, [])]) := by
          rw [eF, rdF, if_pos (Or.inr (Or.inl f7))]
        have hO : ¬ nO F = 0 := by
          rw [eF]
          show ¬ nO F0 + (if f.1 = 100 ∨ f.1 = 7 then 1 else 0) = 0
          rw [if_pos (Or.inr f7)]
          omega
        have hin : inM F = 7 := by
          rw [eF]
          show (if f.1 = 100 ∨ f.1 = 7 then f.1 else inM F0) = 7
          rw [if_pos (Or.inr f7), f7]
        rcases hv with ⟨z1, z2⟩ | ⟨z1, z2⟩
        · subst z2
          have T3 : TR s2 b i (flC F0 ++ hdC f :: (f.2.2.1 ++ [((fl F).length, plF 8 0, [])])) := by
            have := a2
            rw [et, List.append_assoc] at this
            exact this
          have B3 := B2
          rw [ep, eb] at B3
          obtain ⟨s', q1, q2, q3, q4, q5, q6, q7⟩ := x75b (P1 := []) K2 T3 rfl (by omega) B3 f7s (by omega)
          rw [q1]
          refine ⟨s', rfl, Or.inr (Or.inr ⟨f0, c41, Or.inr ⟨c8, Or.inr ⟨(i + 1, F0, clC f [((fl F).length, plF 8 0, [])], 0, 0), ?_, K2.of (b := b) (q7.mono fun a k z => aMC z), ?_, q3, q6, (q7.i (by unfold aM; omega)).trans f8s, ?_, fun _ => q4⟩⟩⟩)⟩
          · unfold mBeh
            rw [hc, if_neg (fun z => by rw [z1] at z; exact absurd z.1 (by decide)), if_pos ⟨z1, hO⟩, er, eF]
          · have e8 : (((hdC f).1, setN (hdC f).2.1 1 (Int32.ofNat (f.2.2.2.length + 1)), (hdC f).2.2) : NN) = upN f := by
              show (f.2.1.1, setN (setN f.2.1.2.1 1 (caF f)) 1 (Int32.ofNat (f.2.2.2.length + 1)), f.2.1.2.2) = upN f
              rw [setN_2]
              rfl
            rw [e8] at q2
            show TR s' b (i + 1) (flC F0 ++ clC f [((fl F).length, plF 8 0, [])])
            unfold clC
            rw [if_pos f7]
            exact q2.up (by omega)
          · rw [q5]
            show (4 : Int32) = wn (clC f [((fl F).length, plF 8 0, [])]) 0 0
            unfold clC
            rw [if_pos f7]
            rfl
        · subst z2
          have eM : mBeh t i F [((fl F).length, plF 8 0, [])] 0 = if f.2.2.2.length = 29 then .inl i else .inr (i + 1, cmF f [((fl F).length, plF 8 0, [])] :: F0, [], 2, 0) := by
            unfold mBeh
            rw [hc, if_neg (fun z => by rw [z1] at z; exact absurd z.1 (by decide)), if_neg (fun z => by rw [z1] at z; exact absurd z.1 (by decide)), if_pos ⟨z1, hin⟩, er, eF]
          have B3 := B2
          rw [ep, eb] at B3
          by_cases k29 : f.2.2.2.length = 29
          · obtain ⟨s', q1, q2⟩ := x75w k29 B3 f7s (by omega)
            rw [q1]
            exact ⟨s', rfl, Or.inr (Or.inr ⟨f0, c41, Or.inr ⟨c8, Or.inl ⟨q2, i, by rw [eM, if_pos k29]⟩⟩⟩)⟩
          · obtain ⟨s', q1, q2, q3, q4, q5, q6⟩ := x75c (P1 := []) K2 a2 (by omega) B3 f7s (by omega)
            rw [q1]
            refine ⟨s', rfl, Or.inr (Or.inr ⟨f0, c41, Or.inr ⟨c8, Or.inr ⟨_, by rw [eM, if_neg k29], K2.of (b := b) (q6.mono fun a k z => aMC z), ?_, ?_, q5, (q6.i (by unfold aM; omega)).trans f8s, by rw [q4]; rfl, fun z => absurd rfl z⟩⟩⟩)⟩
            · have e9 : flC (cmF f [((fl F).length, plF 8 0, [])] :: F0) ++ [] = flC F ++ [((fl F).length, plF 8 0, [])] := by
                rw [List.append_nil, et, List.append_assoc]
                show flC F0 ++ frC (cmF f [((fl F).length, plF 8 0, [])]) = _
                unfold frC
                rw [if_neg (show ¬ (cmF f [((fl F).length, plF 8 0, [])]).1 = 100 from n100)]
                have e8 : hdC (cmF f [((fl F).length, plF 8 0, [])]) = hdC f := by
                  show (f.2.1.1, setN (setN f.2.1.2.1 1 (Int32.ofNat (f.2.2.2.length + 1))) 1 (caF (cmF f [((fl F).length, plF 8 0, [])])), f.2.1.2.2) = hdC f
                  rw [setN_2]
                  rfl
                rw [e8]
                rfl
              show TR s' b (i + 1) (flC (cmF f [((fl F).length, plF 8 0, [])] :: F0) ++ [])
              rw [e9]
              exact q2.up (by omega)
            · have ep2 : pO (cmF f [((fl F).length, plF 8 0, [])] :: F0) = pO F0 := by
                rw [pO]
                exact if_pos (Or.inr f7)
              have eb2 : bO (cmF f [((fl F).length, plF 8 0, [])] :: F0) = ((flC F0).length, Int32.ofNat (f.2.2.2.length + 1), (pO F0).length) :: bO F0 := by
                rw [bO, if_neg (show ¬ (cmF f [((fl F).length, plF 8 0, [])]).1 = 100 from n100), if_pos (show (cmF f [((fl F).length, plF 8 0, [])]).1 = 7 from f7)]
                show ((flC F0).length, Int32.ofNat (f.2.2.2 ++ [hdI [((fl F).length, plF 8 0, [])]]).length, (pO F0).length) :: bO F0 = _
                rw [List.length_append]
                rfl
              show PB s' (pO (cmF f [((fl F).length, plF 8 0, [])] :: F0)) (bO (cmF f [((fl F).length, plF 8 0, [])] :: F0))
              rw [ep2, eb2]
              exact q3
      · rw [e70]
        simp only [bv_some]
        rw [if_pos trivial]
        exact ⟨_, rfl, Or.inr (Or.inr ⟨f0, c41, Or.inl ⟨c8, by rw [sI_wI, if_pos ⟨rfl, rfl⟩, h7]; exact nm1 (by omega)⟩⟩)⟩
end XX
end
section
/-! the reader of FormulaTrees, exactly: a step at an operand; what the reference's steps leave -/
section XX
variable {s s1 : aS} {b i : Nat} {t : List Int32} {ns : List (List Int32)} {F : List Fw} {cur M : List NN} {fr : Int32} {lc : Nat}
set_option maxRecDepth 100000 in
theorem d103_o {c : Int32} (h : ¬ (c = 34 ∨ c = 35 ∨ c = 36 ∨ c = 39 ∨ c = 40 ∨ c = 41 ∨ c = 43 ∨ c = 44 ∨ c = 45)) : dm103 c s = bu (dm47 c) fun r93 => if r93 = 0 then (if c = 46 then dm103_52 s else bu (dm44 c) fun r98 => if r98 = 0 then nx (wI s 106 8 (sI s 106 7)) fun s100 => some s100 else bu (dm123 s) fun s105 => some s105) else dm103_52 s := by
  unfold dm103
  rw [if_neg (fun z => h (by simp [z])), if_neg (fun z => h (by simp [z])), if_neg (fun z => h (by simp [z]))]
  by_cases c37 : c = 37
  · rw [if_pos c37]
  · rw [if_neg c37]
    by_cases c38 : c = 38
    · rw [if_pos c38]
    · rw [if_neg c38, if_neg (fun z => h (by simp [z])), if_neg (fun z => h (by simp [z])), if_neg (fun z => h (by simp [z]))]
      by_cases c42 : c = 42
      · rw [if_pos c42]
      · rw [if_neg c42, if_neg (fun z => h (by simp [z])), if_neg (fun z => h (by simp [z])), if_neg (fun z => h (by simp [z]))]
set_option maxRecDepth 100000 in
theorem pr_n {p : Nat} (h : ¬ prB (t.getD p 0)) : mPrim t ns F (fl F).length p = .inl p := by
  unfold mPrim
  rw [if_pos (Or.inl (b01_ne.mpr h))]
set_option maxRecDepth 100000 in
/-- at an operand -/
theorem x103 (h : XI s b t ns i F [] fr 0) (hF : ∀ f ∈ F, gdF ns f) (hfr : frI fr F) (hi : i < t.length) (hno : ¬ ((t.getD i 0 = 41 ∨ t.getD i 0 = 44) ∧ ¬ fr = 0 ∧ ¬ (t.getD i 0 = 41 ∧ fr = 1))) : OC b t ns F i (mOpd t ns i F fr) (dm103 (t.getD i (-1)) s) := by
  have hl := h.1.1.2.1
  have hb := xb h.1
  have h8l := fl8 h
  have hfl := flC_len F
  obtain ⟨K, -, B, h7, h8, h9, -⟩ := id h
  have T := h.tr
  rw [gd_in hi]
  obtain ⟨c, hc⟩ : ∃ c, c = t.getD i 0 := ⟨_, rfl⟩
  rw [← hc] at hno ⊢
  have hfr0 : (¬ fr ≤ 0) ↔ ¬ fr = 0 := by
    rcases hfr with z | ⟨z, -⟩ | ⟨z, -⟩ <;> rw [z] <;> decide
  -- a primary
  have prim : ¬ c = 43 → ¬ c = 45 → ¬ c = 40 → ¬ (c = 41 ∧ fr = 1) → mOpd t ns i F fr = mPrim t ns F (fl F).length i := by
    intro n1 n2 n3 n4
    unfold mOpd
    rw [← hc, if_neg n1, if_neg n2, if_neg n3, if_neg n4, if_neg (fun z => hno ⟨z.1, hfr0.mp z.2, n4⟩)]
  have tok : ∀ {X : Prop} {z : Nat} {n : NN} {D : Option aS} {Y : Nat ⊕ St}, prB c → Tk b s (flC F) X z n D → (¬ X → ∃ p, mTok t ns F (fl F).length i = .inl p) → (X → mTok t ns F (fl F).length i = .inr (z, F, [n], 0, 0)) → OC b t ns F i (mPrim t ns F (fl F).length i) D := by
    intro X z n D Y hp hT q1 q2
    refine OC.tk h hT (fun q => ?_) (fun q q8 => ?_)
    · by_cases c8 : (flC F).length = 128
      · exact ⟨i, pr_l c8⟩
      · rw [pr_t (by omega) (by rw [← hc]; exact hp)]
        exact q1 (q.resolve_right c8)
    · rw [pr_t q8 (by rw [← hc]; exact hp)]
      exact q2 q
  have tkT : mTok t ns F (fl F).length i = if b01 (isD c ∨ c = 46) = 1 then (if (lexN t i).1 = 0 then .inl (lexN t i).2 else .inr ((lexN t i).2, F, [((fl F).length, plF 0 0, (sl t i (lexN t i).2).map gr)], 0, 0)) else if c = 34 then (match qtA t 34 i with
    | none => .inl t.length
    | some (u, e2) => .inr (e2, F, [((fl F).length, plF 1 0, u)], 0, 0)) else if c = 35 then (if (erG t i 8 0).1 = 0 then .inl (erG t i 8 0).2 else .inr ((erG t i 8 0).2, F, [((fl F).length, setN (plF 2 0) 8 (erG t i 8 0).1, [])], 0, 0)) else if c = 39 then mPre t ns F (fl F).length i else if c = 36 then mCell t F (fl F).length (-1) i else mWord t ns F (fl F).length i := by
    rw [hc]
    rfl
  by_cases s34 : c = 34
  · rw [prim (by rw [s34]; decide) (by rw [s34]; decide) (by rw [s34]; decide) (fun z => by rw [s34] at z; exact absurd z.1 (by decide))]
    unfold dm103
    rw [if_pos s34]
    have nd : ¬ b01 (isD c ∨ c = 46) = 1 := by rw [s34, b01_f (by unfold isD; decide)]; decide
    rw [if_neg nd, if_pos s34] at tkT
    rcases x104 (q := (fl F).length) K T hi h7 h8 with ⟨u, e, q1, q2, q3⟩ | ⟨q1, q2⟩
    · refine OC.bx (tok (Y := .inl 0) (by rw [s34]; exact Or.inr (Or.inr (Or.inl rfl))) q3 (fun z => absurd trivial z) (fun _ => ?_))
      rw [tkT, q1]
    · refine OC.bx (OC.w q2 (Or.inl ?_))
      by_cases c8 : (flC F).length = 128
      · exact ⟨i, pr_l c8⟩
      · rw [pr_t (by omega) (by rw [← hc, s34]; exact Or.inr (Or.inr (Or.inl rfl))), tkT, q1]
        exact ⟨_, rfl⟩
  · by_cases s35 : c = 35
    · rw [prim (by rw [s35]; decide) (by rw [s35]; decide) (by rw [s35]; decide) (fun z => by rw [s35] at z; exact absurd z.1 (by decide))]
      unfold dm103
      rw [if_neg s34, if_pos s35]
      have nd : ¬ b01 (isD c ∨ c = 46) = 1 := by rw [s35, b01_f (by unfold isD; decide)]; decide
      rw [if_neg nd, if_neg s34, if_pos s35] at tkT
      refine OC.bx (tok (Y := .inl 0) (by rw [s35]; exact Or.inr (Or.inr (Or.inr (Or.inl rfl)))) (x108 (q := (fl F).length) K T hi h7 h8) (fun z => ?_) (fun z => ?_))
      · rw [tkT, if_pos (Classical.byContradiction fun y => z y)]
        exact ⟨_, rfl⟩
      · rw [tkT, if_neg z]
    · by_cases s36 : c = 36
      · rw [prim (by rw [s36]; decide) (by rw [s36]; decide) (by rw [s36]; decide) (fun z => by rw [s36] at z; exact absurd z.1 (by decide))]
        unfold dm103
        rw [if_neg s34, if_neg s35, if_pos s36, h7]
        have nd : ¬ b01 (isD c ∨ c = 46) = 1 := by rw [s36, b01_f (by unfold isD; decide)]; decide
        rw [if_neg nd, if_neg s34, if_neg s35, if_neg (by rw [s36]; decide), if_pos s36] at tkT
        refine (OC.r h K (ch.refl _ s) T h7 h8 (Nat.le_refl _) (by omega) (by omega) ?_).bx
        by_cases c8 : (flC F).length = 128
        · exact Or.inr ⟨⟨i, pr_l c8⟩, Or.inl c8⟩
        · left
          refine ⟨?_, by omega⟩
          rw [pr_t (by omega) (by rw [← hc, s36]; exact Or.inr (Or.inr (Or.inr (Or.inr (Or.inr (Or.inl rfl)))))), tkT]
      · by_cases s39 : c = 39
        · rw [prim (by rw [s39]; decide) (by rw [s39]; decide) (by rw [s39]; decide) (fun z => by rw [s39] at z; exact absurd z.1 (by decide))]
          have e : dm103 c s = bu (dm113 s) fun s48 => some s48 := by
            unfold dm103
            rw [s39]
            rfl
          rw [e]
          exact (x113 h hi (by rw [← hc]; exact s39)).bx
        · by_cases s40 : c = 40
          · have e : dm103 c s = bu (dm115 (Int32.ofNat (flC F).length) (-1) s) fun s58 => some s58 := by
              unfold dm103
              rw [s40, if_neg (by decide), if_neg (by decide), if_neg (by decide), if_neg (by decide), if_neg (by decide), if_neg (by decide), if_pos rfl, (xtr K).1, if_pos (xk K)]
              unfold dm94
              simp only [bu_some]
              rw [T.1]
            rw [e]
            have eM : mOpd t ns i F fr = if nO F = 32 then .inl i else .inr (i + 1, (100, dN, [], []) :: F, [], 0, 0) := by
              unfold mOpd
              rw [← hc, if_neg (by rw [s40]; decide), if_neg (by rw [s40]; decide), if_pos s40]
            rw [eM]
            rcases x115 (pl := (flC F).length) (v := -1) B h7 (by omega) with ⟨r1, s5, r2, r3⟩ | ⟨r1, s5, r2, r3, r4, r5, r6⟩
            · rw [bO_len] at r1
              rw [r2, if_pos r1]
              exact ⟨s5, rfl, Or.inl ⟨r3, dead.l⟩⟩
            · rw [bO_len] at r1
              rw [r2, if_neg (by omega)]
              have e9 : flC ((100, dN, [], []) :: F) ++ [] = flC F := by
                rw [List.append_nil]
                show flC F ++ [] = flC F
                rw [List.append_nil]
              refine ⟨s5, rfl, Or.inr (Or.inl ⟨_, rfl, K.of (b := b) (r6.mono fun a k z => aPC z), ?_, r3, r4, (r6.i (by unfold aP; omega)).trans h8, by rw [r5]; rfl, fun z => absurd rfl z⟩)⟩
              show TR s5 b (i + 1) (flC ((100, dN, [], []) :: F) ++ [])
              rw [e9]
              exact (aPt T hb r6).up (by omega)
          · by_cases s41 : c = 41
            · have e : dm103 c s = bu (dm119 1 s) fun s3 => some s3 := by
                unfold dm103 dm103_44
                rw [s41]
                rfl
              rw [e]
              obtain ⟨s', q1, q2⟩ := x119 (c := c) (v := 1) h hF hfr hi hc.symm (Or.inl ⟨s41, rfl⟩)
              rw [q1]
              rcases q2 with ⟨q2, q3⟩ | ⟨-, q3, f, F0, q4, q5⟩ | ⟨q3, q4, -⟩
              · rw [prim (by rw [s41]; decide) (by rw [s41]; decide) (by rw [s41]; decide) (fun z => by rw [q2] at z; exact absurd z.2 (by decide)), pr_n (by rw [← hc, s41]; unfold prB bW isL isD; decide)]
                exact ⟨s', rfl, Or.inl ⟨q3, dead.l⟩⟩
              · have eM : mOpd t ns i F fr = .inr (i + 1, F0, f.2.1 :: (f.2.2.1 ++ []), 0, 0) := by
                  unfold mOpd
                  rw [← hc, if_neg (by rw [s41]; decide), if_neg (by rw [s41]; decide), if_neg (by rw [s41]; decide), if_pos ⟨s41, q3⟩, q4]
                rw [eM]
                exact ⟨s', rfl, Or.inr (Or.inl ⟨_, rfl, q5⟩)⟩
              · exact absurd ⟨Or.inl s41, q3, q4⟩ hno
            · by_cases s43 : c = 43
              · have e : dm103 c s = some (wI (wI s 106 7 ((sI s 106 7) + 1)) 106 9 1) := by
                  unfold dm103
                  rw [s43]
                  rfl
                rw [e, h7, ofNat_succ (by omega)]
                have eM : mOpd t ns i F fr = .inr (i + 1, F, [], 0, 0) := by
                  unfold mOpd
                  rw [← hc, if_pos s43]
                rw [eM]
                have g : ch (fun a k => a = 106 ∧ (k = 7 ∨ k = 9)) s (wI (wI s 106 7 (Int32.ofNat (i + 1))) 106 9 1) := ((ch.refl _ s).wI (by omega)).wI (by omega)
                refine ⟨_, rfl, Or.inr (Or.inl ⟨_, rfl, K.of (b := b) (g.mono fun a k z => by unfold AC; omega), ?_, B.of g (fun a k z => by omega), by rw [sI_wI, if_neg (by omega), sI_wI, if_pos ⟨rfl, rfl⟩], (g.i (by omega)).trans h8, by rw [sI_wI, if_pos ⟨rfl, rfl⟩]; rfl, fun z => absurd rfl z⟩)⟩
                show TR _ b (i + 1) (flC F ++ [])
                rw [List.append_nil]
                exact (trM T hb g (fun a k z => by omega)).up (by omega)
              · by_cases s44 : c = 44
                · have e : dm103 c s = bu (dm119 0 s) fun s3 => some s3 := by
                    unfold dm103 dm103_44
                    rw [s44]
                    rfl
                  rw [e]
                  obtain ⟨s', q1, q2⟩ := x119 (c := c) (v := 0) h hF hfr hi hc.symm (Or.inr ⟨s44, rfl⟩)
                  rw [q1]
                  rcases q2 with ⟨q2, q3⟩ | ⟨q2, -⟩ | ⟨q3, q4, -⟩
                  · rw [prim (by rw [s44]; decide) (by rw [s44]; decide) (by rw [s44]; decide) (fun z => by rw [q2] at z; exact absurd z.2 (by decide)), pr_n (by rw [← hc, s44]; unfold prB bW isL isD; decide)]
                    exact ⟨s', rfl, Or.inl ⟨q3, dead.l⟩⟩
                  · rw [s44] at q2
                    exact absurd q2 (by decide)
                  · exact absurd ⟨Or.inr s44, q3, q4⟩ hno
                · by_cases s45 : c = 45
                  · have e : dm103 c s = bu (dm118 s) fun s90 => some s90 := by
                      unfold dm103
                      rw [s45]
                      rfl
                    rw [e]
                    have eM : mOpd t ns i F fr = if (fl F).length = 128 then .inl i else .inr (i + 1, (10, ((fl F).length, plF 10 0, []), [], []) :: F, [], 0, 0) := by
                      unfold mOpd
                      rw [← hc, if_neg s43, if_pos s45]
                    rw [eM]
                    exact (x118 h hi).bx
                  · rw [prim s43 s45 s40 (fun z => s41 z.1), d103_o (by
                      rintro (z | z | z | z | z | z | z | z | z)
                      · exact s34 z
                      · exact s35 z
                      · exact s36 z
                      · exact s39 z
                      · exact s40 z
                      · exact s41 z
                      · exact s43 z
                      · exact s44 z
                      · exact s45 z), d47]
                    simp only [bu_some]
                    unfold dm103_52
                    have num : (isD c ∨ c = 46) → OC b t ns F i (mPrim t ns F (fl F).length i) (bu (dm120 s) fun s3 => some s3) := by
                      intro hd
                      rw [if_pos (b01_t hd)] at tkT
                      refine OC.bx (tok (Y := .inl 0) (hd.elim Or.inl (fun z => Or.inr (Or.inl z))) (x120 (q := (fl F).length) K T hi h7 h8 (by rw [← hc]; exact hd)) (fun z => ?_) (fun z => ?_))
                      · rw [tkT, if_pos (Classical.byContradiction fun y => z y)]
                        exact ⟨_, rfl⟩
                      · rw [tkT, if_neg z]
                    by_cases sD : isD c
                    · rw [b01_t sD, if_neg (by decide)]
                      exact num (Or.inl sD)
                    · rw [b01_f sD, if_pos rfl]
                      by_cases s46 : c = 46
                      · rw [if_pos s46]
                        exact num (Or.inr s46)
                      · rw [if_neg s46, d44]
                        simp only [bu_some]
                        by_cases sW : bW c
                        · rw [b01_t sW, if_neg (by decide)]
                          exact (x123 h hi (by rw [← hc]; exact sW)).bx
                        · rw [b01_f sW, if_pos rfl, nx_eq, pr_n (by
                            rw [← hc]
                            rintro (z | z | z | z | z | z | z)
                            · exact sD z
                            · exact s46 z
                            · exact s34 z
                            · exact s35 z
                            · exact sW z
                            · exact s36 z
                            · exact s39 z)]
                          exact OC.w (Wr.set (b := b) h7 (by omega)) dead.l
/-- what a step of the reference leaves: arguments, letters of a cell -/
def goX (X : Nat ⊕ St) : Prop := match X with
  | .inl _ => True
  | .inr z => (z.2.2.1 = [] → frI z.2.2.2.1 z.2.1) ∧ (z.2.2.2.2 = 1 → ∀ n ∈ z.2.2.1, n.2.2 = [])
set_option maxRecDepth 100000 in
theorem goX.n {e : Nat} {F : List Fw} {n : NN} {fr : Int32} : goX (.inr (e, F, [n], fr, 0)) := ⟨fun z => (by cases z), fun z => absurd z (by decide : ¬ (0 : Nat) = 1)⟩
set_option maxRecDepth 100000 in
theorem goX.c {t : List Int32} {F : List Fw} {m j : Nat} {x : Int32} : goX (mCell t F m x j) := by
  unfold mCell
  split
  · exact trivial
  · exact ⟨fun z => (by cases z), fun _ n hn => by rw [List.mem_singleton.mp hn]⟩
set_option maxRecDepth 100000 in
theorem goX.sh {t : List Int32} {F : List Fw} {m f e : Nat} {x : Int32} {c : Nat ⊕ St} (h : goX c) : goX (mSh t F m x f e c) := by
  unfold mSh
  split
  · exact h
  · exact trivial
set_option maxRecDepth 100000 in
theorem mOpd_x {t : List Int32} {ns : List (List Int32)} {i : Nat} {F : List Fw} {fr : Int32} : goX (mOpd t ns i F fr) := by
  have e0 : ∀ (e : Nat) (F : List Fw), goX (.inr (e, F, [], 0, 0)) := fun e F => ⟨fun _ => Or.inl rfl, fun z => absurd z (by decide : ¬ (0 : Nat) = 1)⟩
  unfold mOpd
  split
  · exact e0 _ _
  · split
    · split
      · exact trivial
      · exact e0 _ _
    · split
      · split
        · exact trivial
        · exact e0 _ _
      · split
        · cases F with
          | nil => exact trivial
          | cons f F0 => exact ⟨fun z => (by cases z), fun z => absurd z (by decide : ¬ (0 : Nat) = 1)⟩
        · split
          · split
            · exact trivial
            · exact goX.n
          · unfold mPrim
            split
            · exact trivial
            · unfold mTok
              split
              · split
                · exact trivial
                · exact goX.n
              · split
                · cases qtA t 34 i with
                  | none => exact trivial
                  | some p => exact goX.n
                · split
                  · split
                    · exact trivial
                    · exact goX.n
                  · split
                    · unfold mPre
                      cases qtA t 39 i with
                      | none => exact trivial
                      | some p =>
                        show goX (if t.getD p.2 0 = 33 then mSh t F (fl F).length (fndF p.1 ns 0) i p.2 (mCell t F (fl F).length (fndF p.1 ns 0) (p.2 + 1)) else .inl p.2)
                        split
                        · exact goX.sh goX.c
                        · exact trivial
                    · split
                      · exact goX.c
                      · unfold mWord
                        split
                        · unfold mDol
                          split
                          · exact trivial
                          · split
                            · exact trivial
                            · exact ⟨fun z => (by cases z), fun _ n hn => by rw [List.mem_singleton.mp hn]⟩
                        · split
                          · exact goX.sh goX.c
                          · split
                            · unfold mCal
                              split
                              · exact trivial
                              · exact ⟨fun _ => Or.inr (Or.inl ⟨rfl, _, _, rfl, rfl, rfl⟩), fun z => absurd z (by decide : ¬ (0 : Nat) = 1)⟩
                            · cases icR t i (wdE t i) with
                              | none => exact goX.n
                              | some p => exact ⟨fun z => (by cases z), fun _ n hn => by rw [List.mem_singleton.mp hn]⟩
set_option maxRecDepth 100000 in
theorem mBeh_x {t : List Int32} {i : Nat} {F : List Fw} {cur : List NN} {lc : Nat} (hcur : cur ≠ []) : goX (mBeh t i F cur lc) := by
  have l0 : ¬ (0 : Nat) = 1 := by decide
  unfold mBeh
  split
  · cases cur with
    | nil => exact trivial
    | cons n r =>
      show goX (if b01 (cOk t (skS t (i + 1))) = 0 then .inl (cB t (skS t (i + 1))) else .inr (cE t (skS t (i + 1)), F, [rgN n (Int32.ofNat (cW t (skS t (i + 1)))) (Int32.ofNat (cK t (skS t (i + 1))).2.1) (Int32.ofNat (cFl t (skS t (i + 1))))], 0, 0))
      split
      · exact trivial
      · exact goX.n
  · split
    · rename_i c1
      have hne := rd_ne (x := 0) F cur hcur
      cases hr : (rdF 0 F cur).1 with
      | nil => exact trivial
      | cons f F0 =>
        refine ⟨fun z => ?_, fun z => absurd z l0⟩
        have z : clC f (rdF 0 F cur).2 = [] := z
        unfold clC at z
        split at z
        · cases z
        · exact absurd z hne
    · split
      · rename_i c1
        rcases rd_in F cur with ⟨z1, z2, -⟩ | ⟨f, F0, z1, z2, z3, -⟩
        · rw [c1.2] at z2
          exact absurd z2 (by decide)
        · rw [z1]
          show goX (if f.2.2.2.length = 29 then .inl i else .inr (i + 1, cmF f (rdF 0 F cur).2 :: F0, [], 2, 0))
          split
          · exact trivial
          · refine ⟨fun _ => Or.inr (Or.inr ⟨rfl, _, _, rfl, z3.symm.trans c1.2, fun z => ?_⟩), fun z => absurd z l0⟩
            have z : f.2.2.2 ++ [hdI (rdF 0 F cur).2] = [] := z
            have := congrArg List.length z
            rw [List.length_append] at this
            exact absurd this (by show ¬ f.2.2.2.length + 1 = 0; omega)
      · split
        · exact ⟨fun z => (by cases z), fun z => absurd z l0⟩
        · split
          · exact ⟨fun _ => Or.inl rfl, fun z => absurd z l0⟩
          · exact trivial
end XX
end
